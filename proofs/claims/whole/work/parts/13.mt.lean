def f_Gm_forget (h : jH) : Option (jH) := some (jup h 1 6 0)
set_option maxRecDepth 100000 in
set_option maxHeartbeats 4000000 in
theorem C_Gm_forget {E : jE} {h : jH} {res : jH} (hv : f_Gm_forget h = some res) : jC E M_Gm_forget [(2, ((1 : Nat) : Int))] h none res := by
  refine jC.of ok_Gm_forget.1 (by rw [jlg]; exact Nat.le_of_ble_eq_true rfl) ?_
  show jG E _ 0 [(0, (2, ((1 : Nat) : Int)))] [] h _ _
  unfold f_Gm_forget at hv
  refine jG.blk (st_Gm_forget) 3 (pc1 := 5) (L1 := [(0, (2, ((1 : Nat) : Int)))]) (st1 := []) (h1 := jup h 1 6 0) rfl ?_
  cases hv
  exact jT.vret (st_Gm_forget) rfl trivial
def f_Ps_packed_lp5 (h : jH) (x3 : Int) (k : Int → Int → Option (Int)) : Nat → Int → Int → Option (Int)
  | 0, _, _ => none
  | n + 1, l1, l2 => if 16 ≤ l2 then k l1 l2 else jgd (0 ≤ jadd x3 l2 ∧ jadd x3 l2 < 64) (f_Ps_packed_lp5 h x3 k n (jlor (jlshl l1 4) (h 3 (jadd x3 l2).toNat)) (jadd l2 1))
def f_Ps_packed (h : jH) (a1 : Int) : Option (Int) := f_Ps_packed_lp5 h a1 (fun l4 l5 => some l4) 1000 0 0
set_option maxRecDepth 100000 in
set_option maxHeartbeats 4000000 in
theorem f_Ps_packed_lp5_ok (E : jE) {h : jH} {x3 : Int} {k : Int → Int → Option (Int)} (hk : ∀ (l1 : Int) (l2 : Int) (res : Int), k l1 l2 = some res → jG E M_Ps_packed 33 [(2, (1, l1))] [] h (some (1, res)) h) : ∀ (n : Nat) (l1 : Int) (l2 : Int) (res : Int), f_Ps_packed_lp5 h x3 k n l1 l2 = some res → jG E M_Ps_packed 5 [(0, (2, ((2 : Nat) : Int))), (1, (0, x3)), (2, (1, l1)), (4, (0, l2))] [] h (some (1, res)) h := by
  intro n
  induction n with
  | zero => intro l1 l2 res hv; cases hv
  | succ n ih =>
    intro l1 l2 res hv
    rw [f_Ps_packed_lp5] at hv
    refine jG.blk (st_Ps_packed) 2 (pc1 := 9) (L1 := [(0, (2, ((2 : Nat) : Int))), (1, (0, x3)), (2, (1, l1)), (4, (0, l2))]) (st1 := [(0, 16), (0, l2)]) (h1 := h) rfl ?_
    refine jT.if2 (st_Ps_packed) rfl (tgt := 33) (by decide) (fun hc => ?_) (fun hc => ?_)
    · have hc : 16 ≤ l2 := hc
      try rw [if_pos hc] at hv
      refine jG.subp [2] (L1 := [(2, (1, l1))]) rfl ?_
      exact hk _ _ _ hv
    · have hc : ¬ (16 ≤ l2) := hc
      try rw [if_neg hc] at hv
      refine jG.blk (st_Ps_packed) 8 (pc1 := 23) (L1 := [(0, (2, ((2 : Nat) : Int))), (1, (0, x3)), (2, (1, l1)), (4, (0, l2))]) (st1 := [(0, jadd x3 l2), (2, ((3 : Nat) : Int)), (1, jlshl l1 4)]) (h1 := h) rfl ?_
      obtain ⟨hg, hv⟩ := jgd_some hv
      refine jT.iald (a := 3) (st_Ps_packed) rfl rfl (by decide) hg.1 hg.2 ?_
      refine jG.blk (st_Ps_packed) 4 (pc1 := 30) (L1 := [(4, (0, jadd l2 1)), (2, (1, jlor (jlshl l1 4) (h 3 (jadd x3 l2).toNat))), (0, (2, ((2 : Nat) : Int))), (1, (0, x3))]) (st1 := []) (h1 := h) rfl ?_
      refine jT.goto (st_Ps_packed) rfl (tgt := 5) (by decide) ?_
      refine jG.subp [2, 3, 1, 0] (L1 := [(0, (2, ((2 : Nat) : Int))), (1, (0, x3)), (2, (1, jlor (jlshl l1 4) (h 3 (jadd x3 l2).toNat))), (4, (0, jadd l2 1))]) rfl ?_
      exact ih _ _ _ hv
set_option maxRecDepth 100000 in
set_option maxHeartbeats 4000000 in
theorem C_Ps_packed {E : jE} {h : jH} {a1 : Int} {res : Int} (hv : f_Ps_packed h a1 = some res) : jC E M_Ps_packed [(2, ((2 : Nat) : Int)), (0, a1)] h (some (1, res)) h := by
  refine jC.of ok_Ps_packed.1 (by rw [jlg]; exact Nat.le_of_ble_eq_true rfl) ?_
  show jG E _ 0 [(0, (2, ((2 : Nat) : Int))), (1, (0, a1))] [] h _ _
  unfold f_Ps_packed at hv
  refine jG.blk (st_Ps_packed) 4 (pc1 := 5) (L1 := [(4, (0, 0)), (2, (1, 0)), (0, (2, ((2 : Nat) : Int))), (1, (0, a1))]) (st1 := []) (h1 := h) rfl ?_
  refine jG.subp [2, 3, 1, 0] (L1 := [(0, (2, ((2 : Nat) : Int))), (1, (0, a1)), (2, (1, 0)), (4, (0, 0))]) rfl ?_
  refine f_Ps_packed_lp5_ok E (fun l4 l5 res hv => ?_) 1000 _ _ _ hv
  · refine jG.blk (st_Ps_packed) 1 (pc1 := 34) (L1 := [(2, (1, l4))]) (st1 := [(1, l4)]) (h1 := h) rfl ?_
    cases hv
    exact jT.lret (st_Ps_packed) rfl trivial
def f_Ps_enter_lp26 (x2 : Int) (x3 : Int) (k : Int → jH → Option (jH)) : Nat → Int → jH → Option (jH)
  | 0, _, _ => none
  | n + 1, l1, h4 => if 4 ≤ l1 then k l1 h4 else (f_Ps_packed h4 (jmul 16 l1)).bind fun v5 => jgd (0 ≤ jadd x3 l1 ∧ jadd x3 l1 < 1806) (f_Ps_enter_lp26 x2 x3 k n (jadd l1 1) (jup h4 10 (jadd x3 l1).toNat v5))
def f_Ps_enter (h : jH) (a1 : Int) (a3 : Int) : Option (jH) := if jmul 6 a1 < 0 then some h else if jadd (jmul 6 a1) 6 ≤ 1806 then f_Ps_enter_lp26 a3 (jmul 6 a1) (fun l6 h7 => jgd (0 ≤ jadd (jmul 6 a1) 4 ∧ jadd (jmul 6 a1) 4 < 1806) (jgd (0 ≤ jadd (jmul 6 a1) 5 ∧ jadd (jmul 6 a1) 5 < 1806) (some (jup (jup h7 10 (jadd (jmul 6 a1) 4).toNat (jladd (jlmul 2 (h7 2 2)) (h7 2 1))) 10 (jadd (jmul 6 a1) 5).toNat a3)))) 1000 0 h else some h
set_option maxRecDepth 100000 in
set_option maxHeartbeats 4000000 in
theorem f_Ps_enter_lp26_ok (E : jE) {x2 : Int} {x3 : Int} {k : Int → jH → Option (jH)} (hk : ∀ (l1 : Int) (h4 : jH) (res : jH), k l1 h4 = some res → jG E M_Ps_enter 57 [(0, (2, ((9 : Nat) : Int))), (2, (2, ((2 : Nat) : Int))), (3, (1, x2)), (5, (0, x3))] [] h4 none res) : ∀ (n : Nat) (l1 : Int) (h4 : jH) (res : jH), f_Ps_enter_lp26 x2 x3 k n l1 h4 = some res → jG E M_Ps_enter 26 [(0, (2, ((9 : Nat) : Int))), (2, (2, ((2 : Nat) : Int))), (3, (1, x2)), (5, (0, x3)), (6, (0, l1))] [] h4 none res := by
  intro n
  induction n with
  | zero => intro l1 h4 res hv; cases hv
  | succ n ih =>
    intro l1 h4 res hv
    rw [f_Ps_enter_lp26] at hv
    refine jG.blk (st_Ps_enter) 2 (pc1 := 29) (L1 := [(0, (2, ((9 : Nat) : Int))), (2, (2, ((2 : Nat) : Int))), (3, (1, x2)), (5, (0, x3)), (6, (0, l1))]) (st1 := [(0, 4), (0, l1)]) (h1 := h4) rfl ?_
    refine jT.if2 (st_Ps_enter) rfl (tgt := 57) (by decide) (fun hc => ?_) (fun hc => ?_)
    · have hc : 4 ≤ l1 := hc
      try rw [if_pos hc] at hv
      refine jG.subp [0, 1, 2, 3] (L1 := [(0, (2, ((9 : Nat) : Int))), (2, (2, ((2 : Nat) : Int))), (3, (1, x2)), (5, (0, x3))]) rfl ?_
      exact hk _ _ _ hv
    · have hc : ¬ (4 ≤ l1) := hc
      try rw [if_neg hc] at hv
      refine jG.blk (st_Ps_enter) 9 (pc1 := 47) (L1 := [(0, (2, ((9 : Nat) : Int))), (2, (2, ((2 : Nat) : Int))), (3, (1, x2)), (5, (0, x3)), (6, (0, l1))]) (st1 := [(0, jmul 16 l1), (2, ((2 : Nat) : Int)), (0, jadd x3 l1), (2, ((10 : Nat) : Int))]) (h1 := h4) rfl ?_
      obtain ⟨v5, hq, hv⟩ := Option.bind_eq_some_iff.mp hv
      refine jT.cS (M1 := M_Ps_packed) [(2, ((2 : Nat) : Int)), (0, jmul 16 l1)] [(0, jadd x3 l1), (2, ((10 : Nat) : Int))] (st_Ps_enter) rfl rfl ok_Ps_packed rfl (Nat.le_of_ble_eq_true rfl) (Nat.le_of_ble_eq_true rfl) rfl (Nat.le_of_ble_eq_true rfl) (C_Ps_packed hq) ?_
      show jG E _ 50 [(0, (2, ((9 : Nat) : Int))), (2, (2, ((2 : Nat) : Int))), (3, (1, x2)), (5, (0, x3)), (6, (0, l1))] [(1, v5), (0, jadd x3 l1), (2, ((10 : Nat) : Int))] h4 _ _
      obtain ⟨hg, hv⟩ := jgd_some hv
      refine jT.last (a := 10) (st_Ps_enter) rfl rfl (by decide) hg.1 hg.2 ?_
      refine jG.blk (st_Ps_enter) 1 (pc1 := 54) (L1 := [(6, (0, jadd l1 1)), (0, (2, ((9 : Nat) : Int))), (2, (2, ((2 : Nat) : Int))), (3, (1, x2)), (5, (0, x3))]) (st1 := []) (h1 := jup h4 10 (jadd x3 l1).toNat v5) rfl ?_
      refine jT.goto (st_Ps_enter) rfl (tgt := 26) (by decide) ?_
      refine jG.subp [1, 2, 3, 4, 0] (L1 := [(0, (2, ((9 : Nat) : Int))), (2, (2, ((2 : Nat) : Int))), (3, (1, x2)), (5, (0, x3)), (6, (0, jadd l1 1))]) rfl ?_
      exact ih _ _ _ hv
set_option maxRecDepth 100000 in
set_option maxHeartbeats 4000000 in
theorem C_Ps_enter {E : jE} {h : jH} {a1 : Int} {a3 : Int} {res : jH} (hv : f_Ps_enter h a1 a3 = some res) : jC E M_Ps_enter [(2, ((9 : Nat) : Int)), (0, a1), (2, ((2 : Nat) : Int)), (1, a3)] h none res := by
  refine jC.of ok_Ps_enter.1 (by rw [jlg]; exact Nat.le_of_ble_eq_true rfl) ?_
  show jG E _ 0 [(0, (2, ((9 : Nat) : Int))), (1, (0, a1)), (2, (2, ((2 : Nat) : Int))), (3, (1, a3))] [] h _ _
  unfold f_Ps_enter at hv
  refine jG.blk (st_Ps_enter) 5 (pc1 := 8) (L1 := [(5, (0, jmul 6 a1)), (0, (2, ((9 : Nat) : Int))), (1, (0, a1)), (2, (2, ((2 : Nat) : Int))), (3, (1, a3))]) (st1 := [(0, jmul 6 a1)]) (h1 := h) rfl ?_
  refine jT.if1 (st_Ps_enter) rfl (tgt := 22) (by decide) (fun hc => ?_) (fun hc => ?_)
  · have hc : jmul 6 a1 < 0 := hc
    try rw [if_pos hc] at hv
    cases hv
    exact jT.vret (st_Ps_enter) rfl trivial
  · have hc : ¬ (jmul 6 a1 < 0) := hc
    try rw [if_neg hc] at hv
    refine jG.blk (st_Ps_enter) 4 (pc1 := 19) (L1 := [(5, (0, jmul 6 a1)), (0, (2, ((9 : Nat) : Int))), (1, (0, a1)), (2, (2, ((2 : Nat) : Int))), (3, (1, a3))]) (st1 := [(0, 1806), (0, jadd (jmul 6 a1) 6)]) (h1 := h) rfl ?_
    refine jT.if2 (st_Ps_enter) rfl (tgt := 23) (by decide) (fun hc => ?_) (fun hc => ?_)
    · have hc : jadd (jmul 6 a1) 6 ≤ 1806 := hc
      try rw [if_pos hc] at hv
      refine jG.blk (st_Ps_enter) 2 (pc1 := 26) (L1 := [(6, (0, 0)), (5, (0, jmul 6 a1)), (0, (2, ((9 : Nat) : Int))), (1, (0, a1)), (2, (2, ((2 : Nat) : Int))), (3, (1, a3))]) (st1 := []) (h1 := h) rfl ?_
      refine jG.subp [2, 4, 5, 1, 0] (L1 := [(0, (2, ((9 : Nat) : Int))), (2, (2, ((2 : Nat) : Int))), (3, (1, a3)), (5, (0, jmul 6 a1)), (6, (0, 0))]) rfl ?_
      refine f_Ps_enter_lp26_ok E (fun l6 h7 res hv => ?_) 1000 _ _ _ hv
      · refine jG.blk (st_Ps_enter) 14 (pc1 := 80) (L1 := [(0, (2, ((9 : Nat) : Int))), (2, (2, ((2 : Nat) : Int))), (3, (1, a3)), (5, (0, jmul 6 a1))]) (st1 := [(1, jladd (jlmul 2 (h7 2 2)) (h7 2 1)), (0, jadd (jmul 6 a1) 4), (2, ((10 : Nat) : Int))]) (h1 := h7) rfl ?_
        obtain ⟨hg, hv⟩ := jgd_some hv
        refine jT.last (a := 10) (st_Ps_enter) rfl rfl (by decide) hg.1 hg.2 ?_
        refine jG.blk (st_Ps_enter) 6 (pc1 := 90) (L1 := [(0, (2, ((9 : Nat) : Int))), (2, (2, ((2 : Nat) : Int))), (3, (1, a3)), (5, (0, jmul 6 a1))]) (st1 := [(1, a3), (0, jadd (jmul 6 a1) 5), (2, ((10 : Nat) : Int))]) (h1 := jup h7 10 (jadd (jmul 6 a1) 4).toNat (jladd (jlmul 2 (h7 2 2)) (h7 2 1))) rfl ?_
        obtain ⟨hg, hv⟩ := jgd_some hv
        refine jT.last (a := 10) (st_Ps_enter) rfl rfl (by decide) hg.1 hg.2 ?_
        cases hv
        exact jT.vret (st_Ps_enter) rfl trivial
    · have hc : ¬ (jadd (jmul 6 a1) 6 ≤ 1806) := hc
      try rw [if_neg hc] at hv
      cases hv
      exact jT.vret (st_Ps_enter) rfl trivial
def f_Mt_addPawn_j14 (t : Nat) (h3 : jH) (l1 : Int) (l2 : Int) : Option (jH) := jgd (0 ≤ l2 ∧ l2 < 64) (jgd (0 ≤ l2 ∧ l2 < 64) (some (jup h3 (t + 2) l2.toNat (jlor (h3 (t + 2) l2.toNat) (jlshl 1 l1)))))
def f_Mt_addPawn (t : Nat) (h : jH) (a1 : Int) (a2 : Int) : Option (jH) := if jshr a2 3 = 0 then f_Mt_addPawn_j14 t h a1 a2 else if jshr a2 3 = 7 then f_Mt_addPawn_j14 t h a1 a2 else jgd (0 ≤ a2 ∧ a2 < 64) (jgd (0 ≤ a2 ∧ a2 < 64) (some (jup h (t + 1) a2.toNat (jlor (h (t + 1) a2.toNat) (jlshl 1 a1)))))
set_option maxRecDepth 100000 in
set_option maxHeartbeats 4000000 in
theorem f_Mt_addPawn_j14_ok (E : jE) (t : Nat) (hr : t = 11 ∨ t = 14) {h3 : jH} {l1 : Int} {l2 : Int} {res : jH} (hv : f_Mt_addPawn_j14 t h3 l1 l2 = some res) : jG E M_Mt_addPawn 14 [(0, (2, ((t : Nat) : Int))), (1, (0, l1)), (2, (0, l2))] [] h3 none res := by
  rcases hr with rfl | rfl
  · unfold f_Mt_addPawn_j14 at hv
    refine jG.blk (st_Mt_addPawn) 4 (pc1 := 20) (L1 := [(0, (2, ((11 : Nat) : Int))), (1, (0, l1)), (2, (0, l2))]) (st1 := [(0, l2), (2, ((11 + 2 : Nat) : Int)), (0, l2), (2, ((11 + 2 : Nat) : Int))]) (h1 := h3) rfl ?_
    obtain ⟨hg, hv⟩ := jgd_some hv
    refine jT.lald (a := 11 + 2) (st_Mt_addPawn) rfl rfl (by decide) hg.1 hg.2 ?_
    refine jG.blk (st_Mt_addPawn) 4 (pc1 := 25) (L1 := [(0, (2, ((11 : Nat) : Int))), (1, (0, l1)), (2, (0, l2))]) (st1 := [(1, jlor (h3 (11 + 2) l2.toNat) (jlshl 1 l1)), (0, l2), (2, ((11 + 2 : Nat) : Int))]) (h1 := h3) rfl ?_
    obtain ⟨hg, hv⟩ := jgd_some hv
    refine jT.last (a := 11 + 2) (st_Mt_addPawn) rfl rfl (by decide) hg.1 hg.2 ?_
    refine jT.goto (st_Mt_addPawn) rfl (tgt := 41) (by decide) ?_
    cases hv
    exact jT.vret (st_Mt_addPawn) rfl trivial
  · unfold f_Mt_addPawn_j14 at hv
    refine jG.blk (st_Mt_addPawn) 4 (pc1 := 20) (L1 := [(0, (2, ((14 : Nat) : Int))), (1, (0, l1)), (2, (0, l2))]) (st1 := [(0, l2), (2, ((14 + 2 : Nat) : Int)), (0, l2), (2, ((14 + 2 : Nat) : Int))]) (h1 := h3) rfl ?_
    obtain ⟨hg, hv⟩ := jgd_some hv
    refine jT.lald (a := 14 + 2) (st_Mt_addPawn) rfl rfl (by decide) hg.1 hg.2 ?_
    refine jG.blk (st_Mt_addPawn) 4 (pc1 := 25) (L1 := [(0, (2, ((14 : Nat) : Int))), (1, (0, l1)), (2, (0, l2))]) (st1 := [(1, jlor (h3 (14 + 2) l2.toNat) (jlshl 1 l1)), (0, l2), (2, ((14 + 2 : Nat) : Int))]) (h1 := h3) rfl ?_
    obtain ⟨hg, hv⟩ := jgd_some hv
    refine jT.last (a := 14 + 2) (st_Mt_addPawn) rfl rfl (by decide) hg.1 hg.2 ?_
    refine jT.goto (st_Mt_addPawn) rfl (tgt := 41) (by decide) ?_
    cases hv
    exact jT.vret (st_Mt_addPawn) rfl trivial
set_option maxRecDepth 100000 in
set_option maxHeartbeats 4000000 in
theorem C_Mt_addPawn {E : jE} {t : Nat} (hr : t = 11 ∨ t = 14) {h : jH} {a1 : Int} {a2 : Int} {res : jH} (hv : f_Mt_addPawn t h a1 a2 = some res) : jC E M_Mt_addPawn [(2, ((t : Nat) : Int)), (0, a1), (0, a2)] h none res := by
  rcases hr with rfl | rfl
  · refine jC.of ok_Mt_addPawn.1 (by rw [jlg]; exact Nat.le_of_ble_eq_true rfl) ?_
    show jG E _ 0 [(0, (2, ((11 : Nat) : Int))), (1, (0, a1)), (2, (0, a2))] [] h _ _
    unfold f_Mt_addPawn at hv
    refine jG.blk (st_Mt_addPawn) 5 (pc1 := 5) (L1 := [(3, (0, jshr a2 3)), (0, (2, ((11 : Nat) : Int))), (1, (0, a1)), (2, (0, a2))]) (st1 := [(0, jshr a2 3)]) (h1 := h) rfl ?_
    refine jT.if1 (st_Mt_addPawn) rfl (tgt := 14) (by decide) (fun hc => ?_) (fun hc => ?_)
    · have hc : jshr a2 3 = 0 := hc
      try rw [if_pos hc] at hv
      refine jG.subp [1, 2, 3] (L1 := [(0, (2, ((11 : Nat) : Int))), (1, (0, a1)), (2, (0, a2))]) rfl ?_
      exact f_Mt_addPawn_j14_ok E 11 (by decide) hv
    · have hc : ¬ (jshr a2 3 = 0) := hc
      try rw [if_neg hc] at hv
      refine jG.blk (st_Mt_addPawn) 2 (pc1 := 11) (L1 := [(3, (0, jshr a2 3)), (0, (2, ((11 : Nat) : Int))), (1, (0, a1)), (2, (0, a2))]) (st1 := [(0, 7), (0, jshr a2 3)]) (h1 := h) rfl ?_
      refine jT.if2 (st_Mt_addPawn) rfl (tgt := 29) (by decide) (fun hc => ?_) (fun hc => ?_)
      · have hc : ¬ (jshr a2 3 = 7) := hc
        try rw [if_neg hc] at hv
        refine jG.blk (st_Mt_addPawn) 4 (pc1 := 35) (L1 := [(3, (0, jshr a2 3)), (0, (2, ((11 : Nat) : Int))), (1, (0, a1)), (2, (0, a2))]) (st1 := [(0, a2), (2, ((11 + 1 : Nat) : Int)), (0, a2), (2, ((11 + 1 : Nat) : Int))]) (h1 := h) rfl ?_
        obtain ⟨hg, hv⟩ := jgd_some hv
        refine jT.lald (a := 11 + 1) (st_Mt_addPawn) rfl rfl (by decide) hg.1 hg.2 ?_
        refine jG.blk (st_Mt_addPawn) 4 (pc1 := 40) (L1 := [(3, (0, jshr a2 3)), (0, (2, ((11 : Nat) : Int))), (1, (0, a1)), (2, (0, a2))]) (st1 := [(1, jlor (h (11 + 1) a2.toNat) (jlshl 1 a1)), (0, a2), (2, ((11 + 1 : Nat) : Int))]) (h1 := h) rfl ?_
        obtain ⟨hg, hv⟩ := jgd_some hv
        refine jT.last (a := 11 + 1) (st_Mt_addPawn) rfl rfl (by decide) hg.1 hg.2 ?_
        cases hv
        exact jT.vret (st_Mt_addPawn) rfl trivial
      · have hc : jshr a2 3 = 7 := Decidable.not_not.mp hc
        try rw [if_pos hc] at hv
        refine jG.subp [1, 2, 3] (L1 := [(0, (2, ((11 : Nat) : Int))), (1, (0, a1)), (2, (0, a2))]) rfl ?_
        exact f_Mt_addPawn_j14_ok E 11 (by decide) hv
  · refine jC.of ok_Mt_addPawn.1 (by rw [jlg]; exact Nat.le_of_ble_eq_true rfl) ?_
    show jG E _ 0 [(0, (2, ((14 : Nat) : Int))), (1, (0, a1)), (2, (0, a2))] [] h _ _
    unfold f_Mt_addPawn at hv
    refine jG.blk (st_Mt_addPawn) 5 (pc1 := 5) (L1 := [(3, (0, jshr a2 3)), (0, (2, ((14 : Nat) : Int))), (1, (0, a1)), (2, (0, a2))]) (st1 := [(0, jshr a2 3)]) (h1 := h) rfl ?_
    refine jT.if1 (st_Mt_addPawn) rfl (tgt := 14) (by decide) (fun hc => ?_) (fun hc => ?_)
    · have hc : jshr a2 3 = 0 := hc
      try rw [if_pos hc] at hv
      refine jG.subp [1, 2, 3] (L1 := [(0, (2, ((14 : Nat) : Int))), (1, (0, a1)), (2, (0, a2))]) rfl ?_
      exact f_Mt_addPawn_j14_ok E 14 (by decide) hv
    · have hc : ¬ (jshr a2 3 = 0) := hc
      try rw [if_neg hc] at hv
      refine jG.blk (st_Mt_addPawn) 2 (pc1 := 11) (L1 := [(3, (0, jshr a2 3)), (0, (2, ((14 : Nat) : Int))), (1, (0, a1)), (2, (0, a2))]) (st1 := [(0, 7), (0, jshr a2 3)]) (h1 := h) rfl ?_
      refine jT.if2 (st_Mt_addPawn) rfl (tgt := 29) (by decide) (fun hc => ?_) (fun hc => ?_)
      · have hc : ¬ (jshr a2 3 = 7) := hc
        try rw [if_neg hc] at hv
        refine jG.blk (st_Mt_addPawn) 4 (pc1 := 35) (L1 := [(3, (0, jshr a2 3)), (0, (2, ((14 : Nat) : Int))), (1, (0, a1)), (2, (0, a2))]) (st1 := [(0, a2), (2, ((14 + 1 : Nat) : Int)), (0, a2), (2, ((14 + 1 : Nat) : Int))]) (h1 := h) rfl ?_
        obtain ⟨hg, hv⟩ := jgd_some hv
        refine jT.lald (a := 14 + 1) (st_Mt_addPawn) rfl rfl (by decide) hg.1 hg.2 ?_
        refine jG.blk (st_Mt_addPawn) 4 (pc1 := 40) (L1 := [(3, (0, jshr a2 3)), (0, (2, ((14 : Nat) : Int))), (1, (0, a1)), (2, (0, a2))]) (st1 := [(1, jlor (h (14 + 1) a2.toNat) (jlshl 1 a1)), (0, a2), (2, ((14 + 1 : Nat) : Int))]) (h1 := h) rfl ?_
        obtain ⟨hg, hv⟩ := jgd_some hv
        refine jT.last (a := 14 + 1) (st_Mt_addPawn) rfl rfl (by decide) hg.1 hg.2 ?_
        cases hv
        exact jT.vret (st_Mt_addPawn) rfl trivial
      · have hc : jshr a2 3 = 7 := Decidable.not_not.mp hc
        try rw [if_pos hc] at hv
        refine jG.subp [1, 2, 3] (L1 := [(0, (2, ((14 : Nat) : Int))), (1, (0, a1)), (2, (0, a2))]) rfl ?_
        exact f_Mt_addPawn_j14_ok E 14 (by decide) hv
def f_Mt_addSteps (t : Nat) (h : jH) (a2 : Int) : Option (jH) := (f_X_forwardOf h (h 2 1)).bind fun v1 => (f_X_shifted h a2 0 v1).bind fun v2 => if v2 = (-1) then some h else jgd (0 ≤ v2 ∧ v2 < 64) (if h 3 v2.toNat = 0 then (f_Mt_addPawn t h a2 v2).bind fun v3 => (f_X_shifted v3 v2 0 v1).bind fun v4 => (f_X_rankFor v3 (v3 2 1) 1).bind fun v5 => if jshr a2 3 = v5 then if v4 = (-1) then some v3 else jgd (0 ≤ v4 ∧ v4 < 64) (if v3 3 v4.toNat = 0 then (f_Mt_addPawn t v3 a2 v4).bind fun v6 => some v6 else some v3) else some v3 else some h)
set_option maxRecDepth 100000 in
set_option maxHeartbeats 4000000 in
theorem C_Mt_addSteps {E : jE} {t : Nat} (hr : t = 11 ∨ t = 14) {h : jH} {a2 : Int} {res : jH} (hv : f_Mt_addSteps t h a2 = some res) : jC E M_Mt_addSteps [(2, ((t : Nat) : Int)), (2, ((2 : Nat) : Int)), (0, a2)] h none res := by
  rcases hr with rfl | rfl
  · refine jC.of ok_Mt_addSteps.1 (by rw [jlg]; exact Nat.le_of_ble_eq_true rfl) ?_
    show jG E _ 0 [(0, (2, ((11 : Nat) : Int))), (1, (2, ((2 : Nat) : Int))), (2, (0, a2))] [] h _ _
    unfold f_Mt_addSteps at hv
    refine jG.blk (st_Mt_addSteps) 2 (pc1 := 4) (L1 := [(0, (2, ((11 : Nat) : Int))), (1, (2, ((2 : Nat) : Int))), (2, (0, a2))]) (st1 := [(0, h 2 1)]) (h1 := h) rfl ?_
    obtain ⟨v1, hq, hv⟩ := Option.bind_eq_some_iff.mp hv
    refine jT.cSN (M1 := M_X_forwardOf) [(0, h 2 1)] [] (st_Mt_addSteps) rfl rfl ok_X_forwardOf rfl (Nat.le_of_ble_eq_true rfl) (Nat.le_of_ble_eq_true rfl) rfl (Nat.le_of_ble_eq_true rfl) (C_X_forwardOf hq) ?_
    show jG E _ 7 [(0, (2, ((11 : Nat) : Int))), (1, (2, ((2 : Nat) : Int))), (2, (0, a2))] [(0, v1)] h _ _
    refine jG.blk (st_Mt_addSteps) 4 (pc1 := 11) (L1 := [(3, (0, v1)), (0, (2, ((11 : Nat) : Int))), (1, (2, ((2 : Nat) : Int))), (2, (0, a2))]) (st1 := [(0, v1), (0, 0), (0, a2)]) (h1 := h) rfl ?_
    obtain ⟨v2, hq, hv⟩ := Option.bind_eq_some_iff.mp hv
    refine jT.cSN (M1 := M_X_shifted) [(0, a2), (0, 0), (0, v1)] [] (st_Mt_addSteps) rfl rfl ok_X_shifted rfl (Nat.le_of_ble_eq_true rfl) (Nat.le_of_ble_eq_true rfl) rfl (Nat.le_of_ble_eq_true rfl) (C_X_shifted hq) ?_
    show jG E _ 14 [(3, (0, v1)), (0, (2, ((11 : Nat) : Int))), (1, (2, ((2 : Nat) : Int))), (2, (0, a2))] [(0, v2)] h _ _
    refine jG.blk (st_Mt_addSteps) 3 (pc1 := 19) (L1 := [(4, (0, v2)), (3, (0, v1)), (0, (2, ((11 : Nat) : Int))), (1, (2, ((2 : Nat) : Int))), (2, (0, a2))]) (st1 := [(0, (-1)), (0, v2)]) (h1 := h) rfl ?_
    refine jT.if2 (st_Mt_addSteps) rfl (tgt := 32) (by decide) (fun hc => ?_) (fun hc => ?_)
    · have hc : v2 = (-1) := hc
      try rw [if_pos hc] at hv
      cases hv
      exact jT.vret (st_Mt_addSteps) rfl trivial
    · have hc : ¬ (v2 = (-1)) := hc
      try rw [if_neg hc] at hv
      refine jG.blk (st_Mt_addSteps) 3 (pc1 := 28) (L1 := [(4, (0, v2)), (3, (0, v1)), (0, (2, ((11 : Nat) : Int))), (1, (2, ((2 : Nat) : Int))), (2, (0, a2))]) (st1 := [(0, v2), (2, ((3 : Nat) : Int))]) (h1 := h) rfl ?_
      obtain ⟨hg, hv⟩ := jgd_some hv
      refine jT.iald (a := 3) (st_Mt_addSteps) rfl rfl (by decide) hg.1 hg.2 ?_
      refine jT.if1 (st_Mt_addSteps) rfl (tgt := 33) (by decide) (fun hc => ?_) (fun hc => ?_)
      · have hc : h 3 v2.toNat = 0 := hc
        try rw [if_pos hc] at hv
        refine jG.blk (st_Mt_addSteps) 3 (pc1 := 37) (L1 := [(4, (0, v2)), (3, (0, v1)), (0, (2, ((11 : Nat) : Int))), (1, (2, ((2 : Nat) : Int))), (2, (0, a2))]) (st1 := [(0, v2), (0, a2), (2, ((11 : Nat) : Int))]) (h1 := h) rfl ?_
        obtain ⟨v3, hq, hv⟩ := Option.bind_eq_some_iff.mp hv
        refine jT.cV (M1 := M_Mt_addPawn) (2, ((11 : Nat) : Int)) [(0, a2), (0, v2)] [] (st_Mt_addSteps) rfl rfl ok_Mt_addPawn rfl (Or.inl ⟨rfl, _, _, _, rfl, rfl⟩) (Nat.le_of_ble_eq_true rfl) (Nat.le_of_ble_eq_true rfl) rfl (Nat.le_of_ble_eq_true rfl) (C_Mt_addPawn (by decide) hq) ?_
        show jG E _ 40 [(4, (0, v2)), (3, (0, v1)), (0, (2, ((11 : Nat) : Int))), (1, (2, ((2 : Nat) : Int))), (2, (0, a2))] [] v3 _ _
        refine jG.blk (st_Mt_addSteps) 3 (pc1 := 44) (L1 := [(4, (0, v2)), (3, (0, v1)), (0, (2, ((11 : Nat) : Int))), (1, (2, ((2 : Nat) : Int))), (2, (0, a2))]) (st1 := [(0, v1), (0, 0), (0, v2)]) (h1 := v3) rfl ?_
        obtain ⟨v4, hq, hv⟩ := Option.bind_eq_some_iff.mp hv
        refine jT.cSN (M1 := M_X_shifted) [(0, v2), (0, 0), (0, v1)] [] (st_Mt_addSteps) rfl rfl ok_X_shifted rfl (Nat.le_of_ble_eq_true rfl) (Nat.le_of_ble_eq_true rfl) rfl (Nat.le_of_ble_eq_true rfl) (C_X_shifted hq) ?_
        show jG E _ 47 [(4, (0, v2)), (3, (0, v1)), (0, (2, ((11 : Nat) : Int))), (1, (2, ((2 : Nat) : Int))), (2, (0, a2))] [(0, v4)] v3 _ _
        refine jG.blk (st_Mt_addSteps) 7 (pc1 := 57) (L1 := [(5, (0, v4)), (4, (0, v2)), (3, (0, v1)), (0, (2, ((11 : Nat) : Int))), (1, (2, ((2 : Nat) : Int))), (2, (0, a2))]) (st1 := [(0, 1), (0, v3 2 1), (0, jshr a2 3)]) (h1 := v3) rfl ?_
        obtain ⟨v5, hq, hv⟩ := Option.bind_eq_some_iff.mp hv
        refine jT.cSN (M1 := M_X_rankFor) [(0, v3 2 1), (0, 1)] [(0, jshr a2 3)] (st_Mt_addSteps) rfl rfl ok_X_rankFor rfl (Nat.le_of_ble_eq_true rfl) (Nat.le_of_ble_eq_true rfl) rfl (Nat.le_of_ble_eq_true rfl) (C_X_rankFor hq) ?_
        show jG E _ 60 [(5, (0, v4)), (4, (0, v2)), (3, (0, v1)), (0, (2, ((11 : Nat) : Int))), (1, (2, ((2 : Nat) : Int))), (2, (0, a2))] [(0, v5), (0, jshr a2 3)] v3 _ _
        refine jT.if2 (st_Mt_addSteps) rfl (tgt := 86) (by decide) (fun hc => ?_) (fun hc => ?_)
        · have hc : ¬ (jshr a2 3 = v5) := hc
          try rw [if_neg hc] at hv
          cases hv
          exact jT.vret (st_Mt_addSteps) rfl trivial
        · have hc : jshr a2 3 = v5 := Decidable.not_not.mp hc
          try rw [if_pos hc] at hv
          refine jG.blk (st_Mt_addSteps) 2 (pc1 := 66) (L1 := [(5, (0, v4)), (4, (0, v2)), (3, (0, v1)), (0, (2, ((11 : Nat) : Int))), (1, (2, ((2 : Nat) : Int))), (2, (0, a2))]) (st1 := [(0, (-1)), (0, v4)]) (h1 := v3) rfl ?_
          refine jT.if2 (st_Mt_addSteps) rfl (tgt := 86) (by decide) (fun hc => ?_) (fun hc => ?_)
          · have hc : v4 = (-1) := hc
            try rw [if_pos hc] at hv
            cases hv
            exact jT.vret (st_Mt_addSteps) rfl trivial
          · have hc : ¬ (v4 = (-1)) := hc
            try rw [if_neg hc] at hv
            refine jG.blk (st_Mt_addSteps) 3 (pc1 := 75) (L1 := [(5, (0, v4)), (4, (0, v2)), (3, (0, v1)), (0, (2, ((11 : Nat) : Int))), (1, (2, ((2 : Nat) : Int))), (2, (0, a2))]) (st1 := [(0, v4), (2, ((3 : Nat) : Int))]) (h1 := v3) rfl ?_
            obtain ⟨hg, hv⟩ := jgd_some hv
            refine jT.iald (a := 3) (st_Mt_addSteps) rfl rfl (by decide) hg.1 hg.2 ?_
            refine jT.if1 (st_Mt_addSteps) rfl (tgt := 86) (by decide) (fun hc => ?_) (fun hc => ?_)
            · have hc : ¬ (v3 3 v4.toNat = 0) := hc
              try rw [if_neg hc] at hv
              cases hv
              exact jT.vret (st_Mt_addSteps) rfl trivial
            · have hc : v3 3 v4.toNat = 0 := Decidable.not_not.mp hc
              try rw [if_pos hc] at hv
              refine jG.blk (st_Mt_addSteps) 3 (pc1 := 83) (L1 := [(5, (0, v4)), (4, (0, v2)), (3, (0, v1)), (0, (2, ((11 : Nat) : Int))), (1, (2, ((2 : Nat) : Int))), (2, (0, a2))]) (st1 := [(0, v4), (0, a2), (2, ((11 : Nat) : Int))]) (h1 := v3) rfl ?_
              obtain ⟨v6, hq, hv⟩ := Option.bind_eq_some_iff.mp hv
              refine jT.cV (M1 := M_Mt_addPawn) (2, ((11 : Nat) : Int)) [(0, a2), (0, v4)] [] (st_Mt_addSteps) rfl rfl ok_Mt_addPawn rfl (Or.inl ⟨rfl, _, _, _, rfl, rfl⟩) (Nat.le_of_ble_eq_true rfl) (Nat.le_of_ble_eq_true rfl) rfl (Nat.le_of_ble_eq_true rfl) (C_Mt_addPawn (by decide) hq) ?_
              show jG E _ 86 [(5, (0, v4)), (4, (0, v2)), (3, (0, v1)), (0, (2, ((11 : Nat) : Int))), (1, (2, ((2 : Nat) : Int))), (2, (0, a2))] [] v6 _ _
              cases hv
              exact jT.vret (st_Mt_addSteps) rfl trivial
      · have hc : ¬ (h 3 v2.toNat = 0) := hc
        try rw [if_neg hc] at hv
        cases hv
        exact jT.vret (st_Mt_addSteps) rfl trivial
  · refine jC.of ok_Mt_addSteps.1 (by rw [jlg]; exact Nat.le_of_ble_eq_true rfl) ?_
    show jG E _ 0 [(0, (2, ((14 : Nat) : Int))), (1, (2, ((2 : Nat) : Int))), (2, (0, a2))] [] h _ _
    unfold f_Mt_addSteps at hv
    refine jG.blk (st_Mt_addSteps) 2 (pc1 := 4) (L1 := [(0, (2, ((14 : Nat) : Int))), (1, (2, ((2 : Nat) : Int))), (2, (0, a2))]) (st1 := [(0, h 2 1)]) (h1 := h) rfl ?_
    obtain ⟨v1, hq, hv⟩ := Option.bind_eq_some_iff.mp hv
    refine jT.cSN (M1 := M_X_forwardOf) [(0, h 2 1)] [] (st_Mt_addSteps) rfl rfl ok_X_forwardOf rfl (Nat.le_of_ble_eq_true rfl) (Nat.le_of_ble_eq_true rfl) rfl (Nat.le_of_ble_eq_true rfl) (C_X_forwardOf hq) ?_
    show jG E _ 7 [(0, (2, ((14 : Nat) : Int))), (1, (2, ((2 : Nat) : Int))), (2, (0, a2))] [(0, v1)] h _ _
    refine jG.blk (st_Mt_addSteps) 4 (pc1 := 11) (L1 := [(3, (0, v1)), (0, (2, ((14 : Nat) : Int))), (1, (2, ((2 : Nat) : Int))), (2, (0, a2))]) (st1 := [(0, v1), (0, 0), (0, a2)]) (h1 := h) rfl ?_
    obtain ⟨v2, hq, hv⟩ := Option.bind_eq_some_iff.mp hv
    refine jT.cSN (M1 := M_X_shifted) [(0, a2), (0, 0), (0, v1)] [] (st_Mt_addSteps) rfl rfl ok_X_shifted rfl (Nat.le_of_ble_eq_true rfl) (Nat.le_of_ble_eq_true rfl) rfl (Nat.le_of_ble_eq_true rfl) (C_X_shifted hq) ?_
    show jG E _ 14 [(3, (0, v1)), (0, (2, ((14 : Nat) : Int))), (1, (2, ((2 : Nat) : Int))), (2, (0, a2))] [(0, v2)] h _ _
    refine jG.blk (st_Mt_addSteps) 3 (pc1 := 19) (L1 := [(4, (0, v2)), (3, (0, v1)), (0, (2, ((14 : Nat) : Int))), (1, (2, ((2 : Nat) : Int))), (2, (0, a2))]) (st1 := [(0, (-1)), (0, v2)]) (h1 := h) rfl ?_
    refine jT.if2 (st_Mt_addSteps) rfl (tgt := 32) (by decide) (fun hc => ?_) (fun hc => ?_)
    · have hc : v2 = (-1) := hc
      try rw [if_pos hc] at hv
      cases hv
      exact jT.vret (st_Mt_addSteps) rfl trivial
    · have hc : ¬ (v2 = (-1)) := hc
      try rw [if_neg hc] at hv
      refine jG.blk (st_Mt_addSteps) 3 (pc1 := 28) (L1 := [(4, (0, v2)), (3, (0, v1)), (0, (2, ((14 : Nat) : Int))), (1, (2, ((2 : Nat) : Int))), (2, (0, a2))]) (st1 := [(0, v2), (2, ((3 : Nat) : Int))]) (h1 := h) rfl ?_
      obtain ⟨hg, hv⟩ := jgd_some hv
      refine jT.iald (a := 3) (st_Mt_addSteps) rfl rfl (by decide) hg.1 hg.2 ?_
      refine jT.if1 (st_Mt_addSteps) rfl (tgt := 33) (by decide) (fun hc => ?_) (fun hc => ?_)
      · have hc : h 3 v2.toNat = 0 := hc
        try rw [if_pos hc] at hv
        refine jG.blk (st_Mt_addSteps) 3 (pc1 := 37) (L1 := [(4, (0, v2)), (3, (0, v1)), (0, (2, ((14 : Nat) : Int))), (1, (2, ((2 : Nat) : Int))), (2, (0, a2))]) (st1 := [(0, v2), (0, a2), (2, ((14 : Nat) : Int))]) (h1 := h) rfl ?_
        obtain ⟨v3, hq, hv⟩ := Option.bind_eq_some_iff.mp hv
        refine jT.cV (M1 := M_Mt_addPawn) (2, ((14 : Nat) : Int)) [(0, a2), (0, v2)] [] (st_Mt_addSteps) rfl rfl ok_Mt_addPawn rfl (Or.inl ⟨rfl, _, _, _, rfl, rfl⟩) (Nat.le_of_ble_eq_true rfl) (Nat.le_of_ble_eq_true rfl) rfl (Nat.le_of_ble_eq_true rfl) (C_Mt_addPawn (by decide) hq) ?_
        show jG E _ 40 [(4, (0, v2)), (3, (0, v1)), (0, (2, ((14 : Nat) : Int))), (1, (2, ((2 : Nat) : Int))), (2, (0, a2))] [] v3 _ _
        refine jG.blk (st_Mt_addSteps) 3 (pc1 := 44) (L1 := [(4, (0, v2)), (3, (0, v1)), (0, (2, ((14 : Nat) : Int))), (1, (2, ((2 : Nat) : Int))), (2, (0, a2))]) (st1 := [(0, v1), (0, 0), (0, v2)]) (h1 := v3) rfl ?_
        obtain ⟨v4, hq, hv⟩ := Option.bind_eq_some_iff.mp hv
        refine jT.cSN (M1 := M_X_shifted) [(0, v2), (0, 0), (0, v1)] [] (st_Mt_addSteps) rfl rfl ok_X_shifted rfl (Nat.le_of_ble_eq_true rfl) (Nat.le_of_ble_eq_true rfl) rfl (Nat.le_of_ble_eq_true rfl) (C_X_shifted hq) ?_
        show jG E _ 47 [(4, (0, v2)), (3, (0, v1)), (0, (2, ((14 : Nat) : Int))), (1, (2, ((2 : Nat) : Int))), (2, (0, a2))] [(0, v4)] v3 _ _
        refine jG.blk (st_Mt_addSteps) 7 (pc1 := 57) (L1 := [(5, (0, v4)), (4, (0, v2)), (3, (0, v1)), (0, (2, ((14 : Nat) : Int))), (1, (2, ((2 : Nat) : Int))), (2, (0, a2))]) (st1 := [(0, 1), (0, v3 2 1), (0, jshr a2 3)]) (h1 := v3) rfl ?_
        obtain ⟨v5, hq, hv⟩ := Option.bind_eq_some_iff.mp hv
        refine jT.cSN (M1 := M_X_rankFor) [(0, v3 2 1), (0, 1)] [(0, jshr a2 3)] (st_Mt_addSteps) rfl rfl ok_X_rankFor rfl (Nat.le_of_ble_eq_true rfl) (Nat.le_of_ble_eq_true rfl) rfl (Nat.le_of_ble_eq_true rfl) (C_X_rankFor hq) ?_
        show jG E _ 60 [(5, (0, v4)), (4, (0, v2)), (3, (0, v1)), (0, (2, ((14 : Nat) : Int))), (1, (2, ((2 : Nat) : Int))), (2, (0, a2))] [(0, v5), (0, jshr a2 3)] v3 _ _
        refine jT.if2 (st_Mt_addSteps) rfl (tgt := 86) (by decide) (fun hc => ?_) (fun hc => ?_)
        · have hc : ¬ (jshr a2 3 = v5) := hc
          try rw [if_neg hc] at hv
          cases hv
          exact jT.vret (st_Mt_addSteps) rfl trivial
        · have hc : jshr a2 3 = v5 := Decidable.not_not.mp hc
          try rw [if_pos hc] at hv
          refine jG.blk (st_Mt_addSteps) 2 (pc1 := 66) (L1 := [(5, (0, v4)), (4, (0, v2)), (3, (0, v1)), (0, (2, ((14 : Nat) : Int))), (1, (2, ((2 : Nat) : Int))), (2, (0, a2))]) (st1 := [(0, (-1)), (0, v4)]) (h1 := v3) rfl ?_
          refine jT.if2 (st_Mt_addSteps) rfl (tgt := 86) (by decide) (fun hc => ?_) (fun hc => ?_)
          · have hc : v4 = (-1) := hc
            try rw [if_pos hc] at hv
            cases hv
            exact jT.vret (st_Mt_addSteps) rfl trivial
          · have hc : ¬ (v4 = (-1)) := hc
            try rw [if_neg hc] at hv
            refine jG.blk (st_Mt_addSteps) 3 (pc1 := 75) (L1 := [(5, (0, v4)), (4, (0, v2)), (3, (0, v1)), (0, (2, ((14 : Nat) : Int))), (1, (2, ((2 : Nat) : Int))), (2, (0, a2))]) (st1 := [(0, v4), (2, ((3 : Nat) : Int))]) (h1 := v3) rfl ?_
            obtain ⟨hg, hv⟩ := jgd_some hv
            refine jT.iald (a := 3) (st_Mt_addSteps) rfl rfl (by decide) hg.1 hg.2 ?_
            refine jT.if1 (st_Mt_addSteps) rfl (tgt := 86) (by decide) (fun hc => ?_) (fun hc => ?_)
            · have hc : ¬ (v3 3 v4.toNat = 0) := hc
              try rw [if_neg hc] at hv
              cases hv
              exact jT.vret (st_Mt_addSteps) rfl trivial
            · have hc : v3 3 v4.toNat = 0 := Decidable.not_not.mp hc
              try rw [if_pos hc] at hv
              refine jG.blk (st_Mt_addSteps) 3 (pc1 := 83) (L1 := [(5, (0, v4)), (4, (0, v2)), (3, (0, v1)), (0, (2, ((14 : Nat) : Int))), (1, (2, ((2 : Nat) : Int))), (2, (0, a2))]) (st1 := [(0, v4), (0, a2), (2, ((14 : Nat) : Int))]) (h1 := v3) rfl ?_
              obtain ⟨v6, hq, hv⟩ := Option.bind_eq_some_iff.mp hv
              refine jT.cV (M1 := M_Mt_addPawn) (2, ((14 : Nat) : Int)) [(0, a2), (0, v4)] [] (st_Mt_addSteps) rfl rfl ok_Mt_addPawn rfl (Or.inl ⟨rfl, _, _, _, rfl, rfl⟩) (Nat.le_of_ble_eq_true rfl) (Nat.le_of_ble_eq_true rfl) rfl (Nat.le_of_ble_eq_true rfl) (C_Mt_addPawn (by decide) hq) ?_
              show jG E _ 86 [(5, (0, v4)), (4, (0, v2)), (3, (0, v1)), (0, (2, ((14 : Nat) : Int))), (1, (2, ((2 : Nat) : Int))), (2, (0, a2))] [] v6 _ _
              cases hv
              exact jT.vret (st_Mt_addSteps) rfl trivial
      · have hc : ¬ (h 3 v2.toNat = 0) := hc
        try rw [if_neg hc] at hv
        cases hv
        exact jT.vret (st_Mt_addSteps) rfl trivial
def f_Mt_addTakes_lp2 (t : Nat) (x2 : Int) (k : Int → jH → Option (jH)) : Nat → Int → jH → Option (jH)
  | 0, _, _ => none
  | n + 1, l1, h3 => if 1 < l1 then k l1 h3 else (f_X_forwardOf h3 (h3 2 1)).bind fun v4 => (f_X_shifted h3 x2 l1 v4).bind fun v5 => if v5 = (-1) then f_Mt_addTakes_lp2 t x2 k n (jadd l1 2) h3 else (f_Bd_mayPawnTake h3 v5).bind fun v6 => if v6 = 0 then f_Mt_addTakes_lp2 t x2 k n (jadd l1 2) h3 else (f_Mt_addPawn t h3 x2 v5).bind fun v7 => f_Mt_addTakes_lp2 t x2 k n (jadd l1 2) v7
def f_Mt_addTakes (t : Nat) (h : jH) (a2 : Int) : Option (jH) := f_Mt_addTakes_lp2 t a2 (fun l8 h9 => some h9) 1000 (-1) h
set_option maxRecDepth 100000 in
set_option maxHeartbeats 4000000 in
theorem f_Mt_addTakes_lp2_ok (E : jE) (t : Nat) (hr : t = 11 ∨ t = 14) {x2 : Int} {k : Int → jH → Option (jH)} (hk : ∀ (l1 : Int) (h3 : jH) (res : jH), k l1 h3 = some res → jG E M_Mt_addTakes 49 [] [] h3 none res) : ∀ (n : Nat) (l1 : Int) (h3 : jH) (res : jH), f_Mt_addTakes_lp2 t x2 k n l1 h3 = some res → jG E M_Mt_addTakes 2 [(0, (2, ((t : Nat) : Int))), (1, (2, ((2 : Nat) : Int))), (2, (0, x2)), (3, (0, l1))] [] h3 none res := by
  rcases hr with rfl | rfl
  · intro n
    induction n with
    | zero => intro l1 h3 res hv; cases hv
    | succ n ih =>
      intro l1 h3 res hv
      rw [f_Mt_addTakes_lp2] at hv
      refine jG.blk (st_Mt_addTakes) 2 (pc1 := 4) (L1 := [(0, (2, ((11 : Nat) : Int))), (1, (2, ((2 : Nat) : Int))), (2, (0, x2)), (3, (0, l1))]) (st1 := [(0, 1), (0, l1)]) (h1 := h3) rfl ?_
      refine jT.if2 (st_Mt_addTakes) rfl (tgt := 49) (by decide) (fun hc => ?_) (fun hc => ?_)
      · have hc : 1 < l1 := hc
        try rw [if_pos hc] at hv
        refine jG.subp [] (L1 := []) rfl ?_
        exact hk _ _ _ hv
      · have hc : ¬ (1 < l1) := hc
        try rw [if_neg hc] at hv
        refine jG.blk (st_Mt_addTakes) 4 (pc1 := 13) (L1 := [(0, (2, ((11 : Nat) : Int))), (1, (2, ((2 : Nat) : Int))), (2, (0, x2)), (3, (0, l1))]) (st1 := [(0, h3 2 1), (0, l1), (0, x2)]) (h1 := h3) rfl ?_
        obtain ⟨v4, hq, hv⟩ := Option.bind_eq_some_iff.mp hv
        refine jT.cSN (M1 := M_X_forwardOf) [(0, h3 2 1)] [(0, l1), (0, x2)] (st_Mt_addTakes) rfl rfl ok_X_forwardOf rfl (Nat.le_of_ble_eq_true rfl) (Nat.le_of_ble_eq_true rfl) rfl (Nat.le_of_ble_eq_true rfl) (C_X_forwardOf hq) ?_
        show jG E _ 16 [(0, (2, ((11 : Nat) : Int))), (1, (2, ((2 : Nat) : Int))), (2, (0, x2)), (3, (0, l1))] [(0, v4), (0, l1), (0, x2)] h3 _ _
        obtain ⟨v5, hq, hv⟩ := Option.bind_eq_some_iff.mp hv
        refine jT.cSN (M1 := M_X_shifted) [(0, x2), (0, l1), (0, v4)] [] (st_Mt_addTakes) rfl rfl ok_X_shifted rfl (Nat.le_of_ble_eq_true rfl) (Nat.le_of_ble_eq_true rfl) rfl (Nat.le_of_ble_eq_true rfl) (C_X_shifted hq) ?_
        show jG E _ 19 [(0, (2, ((11 : Nat) : Int))), (1, (2, ((2 : Nat) : Int))), (2, (0, x2)), (3, (0, l1))] [(0, v5)] h3 _ _
        refine jG.blk (st_Mt_addTakes) 3 (pc1 := 24) (L1 := [(4, (0, v5)), (0, (2, ((11 : Nat) : Int))), (1, (2, ((2 : Nat) : Int))), (2, (0, x2)), (3, (0, l1))]) (st1 := [(0, (-1)), (0, v5)]) (h1 := h3) rfl ?_
        refine jT.if2 (st_Mt_addTakes) rfl (tgt := 43) (by decide) (fun hc => ?_) (fun hc => ?_)
        · have hc : v5 = (-1) := hc
          try rw [if_pos hc] at hv
          refine jG.blk (st_Mt_addTakes) 1 (pc1 := 46) (L1 := [(3, (0, jadd l1 2)), (4, (0, v5)), (0, (2, ((11 : Nat) : Int))), (1, (2, ((2 : Nat) : Int))), (2, (0, x2))]) (st1 := []) (h1 := h3) rfl ?_
          refine jT.goto (st_Mt_addTakes) rfl (tgt := 2) (by decide) ?_
          refine jG.subp [2, 3, 4, 0] (L1 := [(0, (2, ((11 : Nat) : Int))), (1, (2, ((2 : Nat) : Int))), (2, (0, x2)), (3, (0, jadd l1 2))]) rfl ?_
          exact ih _ _ _ hv
        · have hc : ¬ (v5 = (-1)) := hc
          try rw [if_neg hc] at hv
          refine jG.blk (st_Mt_addTakes) 2 (pc1 := 30) (L1 := [(4, (0, v5)), (0, (2, ((11 : Nat) : Int))), (1, (2, ((2 : Nat) : Int))), (2, (0, x2)), (3, (0, l1))]) (st1 := [(0, v5), (2, ((2 : Nat) : Int))]) (h1 := h3) rfl ?_
          obtain ⟨v6, hq, hv⟩ := Option.bind_eq_some_iff.mp hv
          refine jT.cV (M1 := M_Bd_mayPawnTake) (2, ((2 : Nat) : Int)) [(0, v5)] [] (st_Mt_addTakes) rfl rfl ok_Bd_mayPawnTake rfl (Or.inl ⟨rfl, _, _, _, rfl, rfl⟩) (Nat.le_of_ble_eq_true rfl) (Nat.le_of_ble_eq_true rfl) rfl (Nat.le_of_ble_eq_true rfl) (C_Bd_mayPawnTake hq) ?_
          show jG E _ 33 [(4, (0, v5)), (0, (2, ((11 : Nat) : Int))), (1, (2, ((2 : Nat) : Int))), (2, (0, x2)), (3, (0, l1))] [(0, v6)] h3 _ _
          refine jT.if1 (st_Mt_addTakes) rfl (tgt := 43) (by decide) (fun hc => ?_) (fun hc => ?_)
          · have hc : v6 = 0 := hc
            try rw [if_pos hc] at hv
            refine jG.blk (st_Mt_addTakes) 1 (pc1 := 46) (L1 := [(3, (0, jadd l1 2)), (4, (0, v5)), (0, (2, ((11 : Nat) : Int))), (1, (2, ((2 : Nat) : Int))), (2, (0, x2))]) (st1 := []) (h1 := h3) rfl ?_
            refine jT.goto (st_Mt_addTakes) rfl (tgt := 2) (by decide) ?_
            refine jG.subp [2, 3, 4, 0] (L1 := [(0, (2, ((11 : Nat) : Int))), (1, (2, ((2 : Nat) : Int))), (2, (0, x2)), (3, (0, jadd l1 2))]) rfl ?_
            exact ih _ _ _ hv
          · have hc : ¬ (v6 = 0) := hc
            try rw [if_neg hc] at hv
            refine jG.blk (st_Mt_addTakes) 3 (pc1 := 40) (L1 := [(4, (0, v5)), (0, (2, ((11 : Nat) : Int))), (1, (2, ((2 : Nat) : Int))), (2, (0, x2)), (3, (0, l1))]) (st1 := [(0, v5), (0, x2), (2, ((11 : Nat) : Int))]) (h1 := h3) rfl ?_
            obtain ⟨v7, hq, hv⟩ := Option.bind_eq_some_iff.mp hv
            refine jT.cV (M1 := M_Mt_addPawn) (2, ((11 : Nat) : Int)) [(0, x2), (0, v5)] [] (st_Mt_addTakes) rfl rfl ok_Mt_addPawn rfl (Or.inl ⟨rfl, _, _, _, rfl, rfl⟩) (Nat.le_of_ble_eq_true rfl) (Nat.le_of_ble_eq_true rfl) rfl (Nat.le_of_ble_eq_true rfl) (C_Mt_addPawn (by decide) hq) ?_
            show jG E _ 43 [(4, (0, v5)), (0, (2, ((11 : Nat) : Int))), (1, (2, ((2 : Nat) : Int))), (2, (0, x2)), (3, (0, l1))] [] v7 _ _
            refine jG.blk (st_Mt_addTakes) 1 (pc1 := 46) (L1 := [(3, (0, jadd l1 2)), (4, (0, v5)), (0, (2, ((11 : Nat) : Int))), (1, (2, ((2 : Nat) : Int))), (2, (0, x2))]) (st1 := []) (h1 := v7) rfl ?_
            refine jT.goto (st_Mt_addTakes) rfl (tgt := 2) (by decide) ?_
            refine jG.subp [2, 3, 4, 0] (L1 := [(0, (2, ((11 : Nat) : Int))), (1, (2, ((2 : Nat) : Int))), (2, (0, x2)), (3, (0, jadd l1 2))]) rfl ?_
            exact ih _ _ _ hv
  · intro n
    induction n with
    | zero => intro l1 h3 res hv; cases hv
    | succ n ih =>
      intro l1 h3 res hv
      rw [f_Mt_addTakes_lp2] at hv
      refine jG.blk (st_Mt_addTakes) 2 (pc1 := 4) (L1 := [(0, (2, ((14 : Nat) : Int))), (1, (2, ((2 : Nat) : Int))), (2, (0, x2)), (3, (0, l1))]) (st1 := [(0, 1), (0, l1)]) (h1 := h3) rfl ?_
      refine jT.if2 (st_Mt_addTakes) rfl (tgt := 49) (by decide) (fun hc => ?_) (fun hc => ?_)
      · have hc : 1 < l1 := hc
        try rw [if_pos hc] at hv
        refine jG.subp [] (L1 := []) rfl ?_
        exact hk _ _ _ hv
      · have hc : ¬ (1 < l1) := hc
        try rw [if_neg hc] at hv
        refine jG.blk (st_Mt_addTakes) 4 (pc1 := 13) (L1 := [(0, (2, ((14 : Nat) : Int))), (1, (2, ((2 : Nat) : Int))), (2, (0, x2)), (3, (0, l1))]) (st1 := [(0, h3 2 1), (0, l1), (0, x2)]) (h1 := h3) rfl ?_
        obtain ⟨v4, hq, hv⟩ := Option.bind_eq_some_iff.mp hv
        refine jT.cSN (M1 := M_X_forwardOf) [(0, h3 2 1)] [(0, l1), (0, x2)] (st_Mt_addTakes) rfl rfl ok_X_forwardOf rfl (Nat.le_of_ble_eq_true rfl) (Nat.le_of_ble_eq_true rfl) rfl (Nat.le_of_ble_eq_true rfl) (C_X_forwardOf hq) ?_
        show jG E _ 16 [(0, (2, ((14 : Nat) : Int))), (1, (2, ((2 : Nat) : Int))), (2, (0, x2)), (3, (0, l1))] [(0, v4), (0, l1), (0, x2)] h3 _ _
        obtain ⟨v5, hq, hv⟩ := Option.bind_eq_some_iff.mp hv
        refine jT.cSN (M1 := M_X_shifted) [(0, x2), (0, l1), (0, v4)] [] (st_Mt_addTakes) rfl rfl ok_X_shifted rfl (Nat.le_of_ble_eq_true rfl) (Nat.le_of_ble_eq_true rfl) rfl (Nat.le_of_ble_eq_true rfl) (C_X_shifted hq) ?_
        show jG E _ 19 [(0, (2, ((14 : Nat) : Int))), (1, (2, ((2 : Nat) : Int))), (2, (0, x2)), (3, (0, l1))] [(0, v5)] h3 _ _
        refine jG.blk (st_Mt_addTakes) 3 (pc1 := 24) (L1 := [(4, (0, v5)), (0, (2, ((14 : Nat) : Int))), (1, (2, ((2 : Nat) : Int))), (2, (0, x2)), (3, (0, l1))]) (st1 := [(0, (-1)), (0, v5)]) (h1 := h3) rfl ?_
        refine jT.if2 (st_Mt_addTakes) rfl (tgt := 43) (by decide) (fun hc => ?_) (fun hc => ?_)
        · have hc : v5 = (-1) := hc
          try rw [if_pos hc] at hv
          refine jG.blk (st_Mt_addTakes) 1 (pc1 := 46) (L1 := [(3, (0, jadd l1 2)), (4, (0, v5)), (0, (2, ((14 : Nat) : Int))), (1, (2, ((2 : Nat) : Int))), (2, (0, x2))]) (st1 := []) (h1 := h3) rfl ?_
          refine jT.goto (st_Mt_addTakes) rfl (tgt := 2) (by decide) ?_
          refine jG.subp [2, 3, 4, 0] (L1 := [(0, (2, ((14 : Nat) : Int))), (1, (2, ((2 : Nat) : Int))), (2, (0, x2)), (3, (0, jadd l1 2))]) rfl ?_
          exact ih _ _ _ hv
        · have hc : ¬ (v5 = (-1)) := hc
          try rw [if_neg hc] at hv
          refine jG.blk (st_Mt_addTakes) 2 (pc1 := 30) (L1 := [(4, (0, v5)), (0, (2, ((14 : Nat) : Int))), (1, (2, ((2 : Nat) : Int))), (2, (0, x2)), (3, (0, l1))]) (st1 := [(0, v5), (2, ((2 : Nat) : Int))]) (h1 := h3) rfl ?_
          obtain ⟨v6, hq, hv⟩ := Option.bind_eq_some_iff.mp hv
          refine jT.cV (M1 := M_Bd_mayPawnTake) (2, ((2 : Nat) : Int)) [(0, v5)] [] (st_Mt_addTakes) rfl rfl ok_Bd_mayPawnTake rfl (Or.inl ⟨rfl, _, _, _, rfl, rfl⟩) (Nat.le_of_ble_eq_true rfl) (Nat.le_of_ble_eq_true rfl) rfl (Nat.le_of_ble_eq_true rfl) (C_Bd_mayPawnTake hq) ?_
          show jG E _ 33 [(4, (0, v5)), (0, (2, ((14 : Nat) : Int))), (1, (2, ((2 : Nat) : Int))), (2, (0, x2)), (3, (0, l1))] [(0, v6)] h3 _ _
          refine jT.if1 (st_Mt_addTakes) rfl (tgt := 43) (by decide) (fun hc => ?_) (fun hc => ?_)
          · have hc : v6 = 0 := hc
            try rw [if_pos hc] at hv
            refine jG.blk (st_Mt_addTakes) 1 (pc1 := 46) (L1 := [(3, (0, jadd l1 2)), (4, (0, v5)), (0, (2, ((14 : Nat) : Int))), (1, (2, ((2 : Nat) : Int))), (2, (0, x2))]) (st1 := []) (h1 := h3) rfl ?_
            refine jT.goto (st_Mt_addTakes) rfl (tgt := 2) (by decide) ?_
            refine jG.subp [2, 3, 4, 0] (L1 := [(0, (2, ((14 : Nat) : Int))), (1, (2, ((2 : Nat) : Int))), (2, (0, x2)), (3, (0, jadd l1 2))]) rfl ?_
            exact ih _ _ _ hv
          · have hc : ¬ (v6 = 0) := hc
            try rw [if_neg hc] at hv
            refine jG.blk (st_Mt_addTakes) 3 (pc1 := 40) (L1 := [(4, (0, v5)), (0, (2, ((14 : Nat) : Int))), (1, (2, ((2 : Nat) : Int))), (2, (0, x2)), (3, (0, l1))]) (st1 := [(0, v5), (0, x2), (2, ((14 : Nat) : Int))]) (h1 := h3) rfl ?_
            obtain ⟨v7, hq, hv⟩ := Option.bind_eq_some_iff.mp hv
            refine jT.cV (M1 := M_Mt_addPawn) (2, ((14 : Nat) : Int)) [(0, x2), (0, v5)] [] (st_Mt_addTakes) rfl rfl ok_Mt_addPawn rfl (Or.inl ⟨rfl, _, _, _, rfl, rfl⟩) (Nat.le_of_ble_eq_true rfl) (Nat.le_of_ble_eq_true rfl) rfl (Nat.le_of_ble_eq_true rfl) (C_Mt_addPawn (by decide) hq) ?_
            show jG E _ 43 [(4, (0, v5)), (0, (2, ((14 : Nat) : Int))), (1, (2, ((2 : Nat) : Int))), (2, (0, x2)), (3, (0, l1))] [] v7 _ _
            refine jG.blk (st_Mt_addTakes) 1 (pc1 := 46) (L1 := [(3, (0, jadd l1 2)), (4, (0, v5)), (0, (2, ((14 : Nat) : Int))), (1, (2, ((2 : Nat) : Int))), (2, (0, x2))]) (st1 := []) (h1 := v7) rfl ?_
            refine jT.goto (st_Mt_addTakes) rfl (tgt := 2) (by decide) ?_
            refine jG.subp [2, 3, 4, 0] (L1 := [(0, (2, ((14 : Nat) : Int))), (1, (2, ((2 : Nat) : Int))), (2, (0, x2)), (3, (0, jadd l1 2))]) rfl ?_
            exact ih _ _ _ hv
set_option maxRecDepth 100000 in
set_option maxHeartbeats 4000000 in
theorem C_Mt_addTakes {E : jE} {t : Nat} (hr : t = 11 ∨ t = 14) {h : jH} {a2 : Int} {res : jH} (hv : f_Mt_addTakes t h a2 = some res) : jC E M_Mt_addTakes [(2, ((t : Nat) : Int)), (2, ((2 : Nat) : Int)), (0, a2)] h none res := by
  rcases hr with rfl | rfl
  · refine jC.of ok_Mt_addTakes.1 (by rw [jlg]; exact Nat.le_of_ble_eq_true rfl) ?_
    show jG E _ 0 [(0, (2, ((11 : Nat) : Int))), (1, (2, ((2 : Nat) : Int))), (2, (0, a2))] [] h _ _
    unfold f_Mt_addTakes at hv
    refine jG.blk (st_Mt_addTakes) 2 (pc1 := 2) (L1 := [(3, (0, (-1))), (0, (2, ((11 : Nat) : Int))), (1, (2, ((2 : Nat) : Int))), (2, (0, a2))]) (st1 := []) (h1 := h) rfl ?_
    refine jG.subp [1, 2, 3, 0] (L1 := [(0, (2, ((11 : Nat) : Int))), (1, (2, ((2 : Nat) : Int))), (2, (0, a2)), (3, (0, (-1)))]) rfl ?_
    refine f_Mt_addTakes_lp2_ok E 11 (by decide) (fun l8 h9 res hv => ?_) 1000 _ _ _ hv
    · cases hv
      exact jT.vret (st_Mt_addTakes) rfl trivial
  · refine jC.of ok_Mt_addTakes.1 (by rw [jlg]; exact Nat.le_of_ble_eq_true rfl) ?_
    show jG E _ 0 [(0, (2, ((14 : Nat) : Int))), (1, (2, ((2 : Nat) : Int))), (2, (0, a2))] [] h _ _
    unfold f_Mt_addTakes at hv
    refine jG.blk (st_Mt_addTakes) 2 (pc1 := 2) (L1 := [(3, (0, (-1))), (0, (2, ((14 : Nat) : Int))), (1, (2, ((2 : Nat) : Int))), (2, (0, a2))]) (st1 := []) (h1 := h) rfl ?_
    refine jG.subp [1, 2, 3, 0] (L1 := [(0, (2, ((14 : Nat) : Int))), (1, (2, ((2 : Nat) : Int))), (2, (0, a2)), (3, (0, (-1)))]) rfl ?_
    refine f_Mt_addTakes_lp2_ok E 14 (by decide) (fun l8 h9 res hv => ?_) 1000 _ _ _ hv
    · cases hv
      exact jT.vret (st_Mt_addTakes) rfl trivial
def f_Mt_addLeaps_lp2 (t : Nat) (x2 : Int) (k : Int → jH → Option (jH)) : Nat → Int → jH → Option (jH)
  | 0, _, _ => none
  | n + 1, l1, h3 => if 8 ≤ l1 then k l1 h3 else jgd (0 ≤ l1 ∧ l1 < (((jxc.getD 3 []).length : Nat) : Int)) (jgd (0 ≤ l1 ∧ l1 < (((jxc.getD 4 []).length : Nat) : Int)) ((f_X_shifted h3 x2 ((jxc.getD 3 []).getD l1.toNat 0) ((jxc.getD 4 []).getD l1.toNat 0)).bind fun v4 => if v4 = (-1) then f_Mt_addLeaps_lp2 t x2 k n (jadd l1 1) h3 else jgd (0 ≤ v4 ∧ v4 < 64) ((f_X_sideOf h3 (h3 3 v4.toNat)).bind fun v5 => if v5 = h3 2 1 then f_Mt_addLeaps_lp2 t x2 k n (jadd l1 1) h3 else jgd (0 ≤ v4 ∧ v4 < 64) (jgd (0 ≤ v4 ∧ v4 < 64) (f_Mt_addLeaps_lp2 t x2 k n (jadd l1 1) (jup h3 (t + 1) v4.toNat (jlor (h3 (t + 1) v4.toNat) (jlshl 1 x2))))))))
def f_Mt_addLeaps (t : Nat) (h : jH) (a2 : Int) : Option (jH) := f_Mt_addLeaps_lp2 t a2 (fun l6 h7 => some h7) 1000 0 h
set_option maxRecDepth 100000 in
set_option maxHeartbeats 4000000 in
theorem f_Mt_addLeaps_lp2_ok (E : jE) (t : Nat) (hr : t = 11 ∨ t = 14) {x2 : Int} {k : Int → jH → Option (jH)} (hk : ∀ (l1 : Int) (h3 : jH) (res : jH), k l1 h3 = some res → jG E M_Mt_addLeaps 66 [] [] h3 none res) : ∀ (n : Nat) (l1 : Int) (h3 : jH) (res : jH), f_Mt_addLeaps_lp2 t x2 k n l1 h3 = some res → jG E M_Mt_addLeaps 2 [(0, (2, ((t : Nat) : Int))), (1, (2, ((2 : Nat) : Int))), (2, (0, x2)), (3, (0, l1))] [] h3 none res := by
  rcases hr with rfl | rfl
  · intro n
    induction n with
    | zero => intro l1 h3 res hv; cases hv
    | succ n ih =>
      intro l1 h3 res hv
      rw [f_Mt_addLeaps_lp2] at hv
      refine jG.blk (st_Mt_addLeaps) 2 (pc1 := 5) (L1 := [(0, (2, ((11 : Nat) : Int))), (1, (2, ((2 : Nat) : Int))), (2, (0, x2)), (3, (0, l1))]) (st1 := [(0, 8), (0, l1)]) (h1 := h3) rfl ?_
      refine jT.if2 (st_Mt_addLeaps) rfl (tgt := 66) (by decide) (fun hc => ?_) (fun hc => ?_)
      · have hc : 8 ≤ l1 := hc
        try rw [if_pos hc] at hv
        refine jG.subp [] (L1 := []) rfl ?_
        exact hk _ _ _ hv
      · have hc : ¬ (8 ≤ l1) := hc
        try rw [if_neg hc] at hv
        refine jG.blk (st_Mt_addLeaps) 3 (pc1 := 13) (L1 := [(0, (2, ((11 : Nat) : Int))), (1, (2, ((2 : Nat) : Int))), (2, (0, x2)), (3, (0, l1))]) (st1 := [(0, l1), (3, ((3 : Nat) : Int)), (0, x2)]) (h1 := h3) rfl ?_
        obtain ⟨hg, hv⟩ := jgd_some hv
        refine jT.xald (x := 3) (st_Mt_addLeaps) rfl (by decide) rfl (jxl_small (by decide) (by decide)) hg.1 hg.2 (jxc_ok _ _) ?_
        refine jG.blk (st_Mt_addLeaps) 2 (pc1 := 18) (L1 := [(0, (2, ((11 : Nat) : Int))), (1, (2, ((2 : Nat) : Int))), (2, (0, x2)), (3, (0, l1))]) (st1 := [(0, l1), (3, ((4 : Nat) : Int)), (0, (jxc.getD 3 []).getD l1.toNat 0), (0, x2)]) (h1 := h3) rfl ?_
        obtain ⟨hg, hv⟩ := jgd_some hv
        refine jT.xald (x := 4) (st_Mt_addLeaps) rfl (by decide) rfl (jxl_small (by decide) (by decide)) hg.1 hg.2 (jxc_ok _ _) ?_
        obtain ⟨v4, hq, hv⟩ := Option.bind_eq_some_iff.mp hv
        refine jT.cSN (M1 := M_X_shifted) [(0, x2), (0, (jxc.getD 3 []).getD l1.toNat 0), (0, (jxc.getD 4 []).getD l1.toNat 0)] [] (st_Mt_addLeaps) rfl rfl ok_X_shifted rfl (Nat.le_of_ble_eq_true rfl) (Nat.le_of_ble_eq_true rfl) rfl (Nat.le_of_ble_eq_true rfl) (C_X_shifted hq) ?_
        show jG E _ 22 [(0, (2, ((11 : Nat) : Int))), (1, (2, ((2 : Nat) : Int))), (2, (0, x2)), (3, (0, l1))] [(0, v4)] h3 _ _
        refine jG.blk (st_Mt_addLeaps) 3 (pc1 := 27) (L1 := [(4, (0, v4)), (0, (2, ((11 : Nat) : Int))), (1, (2, ((2 : Nat) : Int))), (2, (0, x2)), (3, (0, l1))]) (st1 := [(0, (-1)), (0, v4)]) (h1 := h3) rfl ?_
        refine jT.if2 (st_Mt_addLeaps) rfl (tgt := 60) (by decide) (fun hc => ?_) (fun hc => ?_)
        · have hc : v4 = (-1) := hc
          try rw [if_pos hc] at hv
          refine jG.blk (st_Mt_addLeaps) 1 (pc1 := 63) (L1 := [(3, (0, jadd l1 1)), (4, (0, v4)), (0, (2, ((11 : Nat) : Int))), (1, (2, ((2 : Nat) : Int))), (2, (0, x2))]) (st1 := []) (h1 := h3) rfl ?_
          refine jT.goto (st_Mt_addLeaps) rfl (tgt := 2) (by decide) ?_
          refine jG.subp [2, 3, 4, 0] (L1 := [(0, (2, ((11 : Nat) : Int))), (1, (2, ((2 : Nat) : Int))), (2, (0, x2)), (3, (0, jadd l1 1))]) rfl ?_
          exact ih _ _ _ hv
        · have hc : ¬ (v4 = (-1)) := hc
          try rw [if_neg hc] at hv
          refine jG.blk (st_Mt_addLeaps) 3 (pc1 := 36) (L1 := [(4, (0, v4)), (0, (2, ((11 : Nat) : Int))), (1, (2, ((2 : Nat) : Int))), (2, (0, x2)), (3, (0, l1))]) (st1 := [(0, v4), (2, ((3 : Nat) : Int))]) (h1 := h3) rfl ?_
          obtain ⟨hg, hv⟩ := jgd_some hv
          refine jT.iald (a := 3) (st_Mt_addLeaps) rfl rfl (by decide) hg.1 hg.2 ?_
          obtain ⟨v5, hq, hv⟩ := Option.bind_eq_some_iff.mp hv
          refine jT.cSN (M1 := M_X_sideOf) [(0, h3 3 v4.toNat)] [] (st_Mt_addLeaps) rfl rfl ok_X_sideOf rfl (Nat.le_of_ble_eq_true rfl) (Nat.le_of_ble_eq_true rfl) rfl (Nat.le_of_ble_eq_true rfl) (C_X_sideOf hq) ?_
          show jG E _ 40 [(4, (0, v4)), (0, (2, ((11 : Nat) : Int))), (1, (2, ((2 : Nat) : Int))), (2, (0, x2)), (3, (0, l1))] [(0, v5)] h3 _ _
          refine jG.blk (st_Mt_addLeaps) 2 (pc1 := 44) (L1 := [(4, (0, v4)), (0, (2, ((11 : Nat) : Int))), (1, (2, ((2 : Nat) : Int))), (2, (0, x2)), (3, (0, l1))]) (st1 := [(0, h3 2 1), (0, v5)]) (h1 := h3) rfl ?_
          refine jT.if2 (st_Mt_addLeaps) rfl (tgt := 60) (by decide) (fun hc => ?_) (fun hc => ?_)
          · have hc : v5 = h3 2 1 := hc
            try rw [if_pos hc] at hv
            refine jG.blk (st_Mt_addLeaps) 1 (pc1 := 63) (L1 := [(3, (0, jadd l1 1)), (4, (0, v4)), (0, (2, ((11 : Nat) : Int))), (1, (2, ((2 : Nat) : Int))), (2, (0, x2))]) (st1 := []) (h1 := h3) rfl ?_
            refine jT.goto (st_Mt_addLeaps) rfl (tgt := 2) (by decide) ?_
            refine jG.subp [2, 3, 4, 0] (L1 := [(0, (2, ((11 : Nat) : Int))), (1, (2, ((2 : Nat) : Int))), (2, (0, x2)), (3, (0, jadd l1 1))]) rfl ?_
            exact ih _ _ _ hv
          · have hc : ¬ (v5 = h3 2 1) := hc
            try rw [if_neg hc] at hv
            refine jG.blk (st_Mt_addLeaps) 4 (pc1 := 54) (L1 := [(4, (0, v4)), (0, (2, ((11 : Nat) : Int))), (1, (2, ((2 : Nat) : Int))), (2, (0, x2)), (3, (0, l1))]) (st1 := [(0, v4), (2, ((11 + 1 : Nat) : Int)), (0, v4), (2, ((11 + 1 : Nat) : Int))]) (h1 := h3) rfl ?_
            obtain ⟨hg, hv⟩ := jgd_some hv
            refine jT.lald (a := 11 + 1) (st_Mt_addLeaps) rfl rfl (by decide) hg.1 hg.2 ?_
            refine jG.blk (st_Mt_addLeaps) 4 (pc1 := 59) (L1 := [(4, (0, v4)), (0, (2, ((11 : Nat) : Int))), (1, (2, ((2 : Nat) : Int))), (2, (0, x2)), (3, (0, l1))]) (st1 := [(1, jlor (h3 (11 + 1) v4.toNat) (jlshl 1 x2)), (0, v4), (2, ((11 + 1 : Nat) : Int))]) (h1 := h3) rfl ?_
            obtain ⟨hg, hv⟩ := jgd_some hv
            refine jT.last (a := 11 + 1) (st_Mt_addLeaps) rfl rfl (by decide) hg.1 hg.2 ?_
            refine jG.blk (st_Mt_addLeaps) 1 (pc1 := 63) (L1 := [(3, (0, jadd l1 1)), (4, (0, v4)), (0, (2, ((11 : Nat) : Int))), (1, (2, ((2 : Nat) : Int))), (2, (0, x2))]) (st1 := []) (h1 := jup h3 (11 + 1) v4.toNat (jlor (h3 (11 + 1) v4.toNat) (jlshl 1 x2))) rfl ?_
            refine jT.goto (st_Mt_addLeaps) rfl (tgt := 2) (by decide) ?_
            refine jG.subp [2, 3, 4, 0] (L1 := [(0, (2, ((11 : Nat) : Int))), (1, (2, ((2 : Nat) : Int))), (2, (0, x2)), (3, (0, jadd l1 1))]) rfl ?_
            exact ih _ _ _ hv
  · intro n
    induction n with
    | zero => intro l1 h3 res hv; cases hv
    | succ n ih =>
      intro l1 h3 res hv
      rw [f_Mt_addLeaps_lp2] at hv
      refine jG.blk (st_Mt_addLeaps) 2 (pc1 := 5) (L1 := [(0, (2, ((14 : Nat) : Int))), (1, (2, ((2 : Nat) : Int))), (2, (0, x2)), (3, (0, l1))]) (st1 := [(0, 8), (0, l1)]) (h1 := h3) rfl ?_
      refine jT.if2 (st_Mt_addLeaps) rfl (tgt := 66) (by decide) (fun hc => ?_) (fun hc => ?_)
      · have hc : 8 ≤ l1 := hc
        try rw [if_pos hc] at hv
        refine jG.subp [] (L1 := []) rfl ?_
        exact hk _ _ _ hv
      · have hc : ¬ (8 ≤ l1) := hc
        try rw [if_neg hc] at hv
        refine jG.blk (st_Mt_addLeaps) 3 (pc1 := 13) (L1 := [(0, (2, ((14 : Nat) : Int))), (1, (2, ((2 : Nat) : Int))), (2, (0, x2)), (3, (0, l1))]) (st1 := [(0, l1), (3, ((3 : Nat) : Int)), (0, x2)]) (h1 := h3) rfl ?_
        obtain ⟨hg, hv⟩ := jgd_some hv
        refine jT.xald (x := 3) (st_Mt_addLeaps) rfl (by decide) rfl (jxl_small (by decide) (by decide)) hg.1 hg.2 (jxc_ok _ _) ?_
        refine jG.blk (st_Mt_addLeaps) 2 (pc1 := 18) (L1 := [(0, (2, ((14 : Nat) : Int))), (1, (2, ((2 : Nat) : Int))), (2, (0, x2)), (3, (0, l1))]) (st1 := [(0, l1), (3, ((4 : Nat) : Int)), (0, (jxc.getD 3 []).getD l1.toNat 0), (0, x2)]) (h1 := h3) rfl ?_
        obtain ⟨hg, hv⟩ := jgd_some hv
        refine jT.xald (x := 4) (st_Mt_addLeaps) rfl (by decide) rfl (jxl_small (by decide) (by decide)) hg.1 hg.2 (jxc_ok _ _) ?_
        obtain ⟨v4, hq, hv⟩ := Option.bind_eq_some_iff.mp hv
        refine jT.cSN (M1 := M_X_shifted) [(0, x2), (0, (jxc.getD 3 []).getD l1.toNat 0), (0, (jxc.getD 4 []).getD l1.toNat 0)] [] (st_Mt_addLeaps) rfl rfl ok_X_shifted rfl (Nat.le_of_ble_eq_true rfl) (Nat.le_of_ble_eq_true rfl) rfl (Nat.le_of_ble_eq_true rfl) (C_X_shifted hq) ?_
        show jG E _ 22 [(0, (2, ((14 : Nat) : Int))), (1, (2, ((2 : Nat) : Int))), (2, (0, x2)), (3, (0, l1))] [(0, v4)] h3 _ _
        refine jG.blk (st_Mt_addLeaps) 3 (pc1 := 27) (L1 := [(4, (0, v4)), (0, (2, ((14 : Nat) : Int))), (1, (2, ((2 : Nat) : Int))), (2, (0, x2)), (3, (0, l1))]) (st1 := [(0, (-1)), (0, v4)]) (h1 := h3) rfl ?_
        refine jT.if2 (st_Mt_addLeaps) rfl (tgt := 60) (by decide) (fun hc => ?_) (fun hc => ?_)
        · have hc : v4 = (-1) := hc
          try rw [if_pos hc] at hv
          refine jG.blk (st_Mt_addLeaps) 1 (pc1 := 63) (L1 := [(3, (0, jadd l1 1)), (4, (0, v4)), (0, (2, ((14 : Nat) : Int))), (1, (2, ((2 : Nat) : Int))), (2, (0, x2))]) (st1 := []) (h1 := h3) rfl ?_
          refine jT.goto (st_Mt_addLeaps) rfl (tgt := 2) (by decide) ?_
          refine jG.subp [2, 3, 4, 0] (L1 := [(0, (2, ((14 : Nat) : Int))), (1, (2, ((2 : Nat) : Int))), (2, (0, x2)), (3, (0, jadd l1 1))]) rfl ?_
          exact ih _ _ _ hv
        · have hc : ¬ (v4 = (-1)) := hc
          try rw [if_neg hc] at hv
          refine jG.blk (st_Mt_addLeaps) 3 (pc1 := 36) (L1 := [(4, (0, v4)), (0, (2, ((14 : Nat) : Int))), (1, (2, ((2 : Nat) : Int))), (2, (0, x2)), (3, (0, l1))]) (st1 := [(0, v4), (2, ((3 : Nat) : Int))]) (h1 := h3) rfl ?_
          obtain ⟨hg, hv⟩ := jgd_some hv
          refine jT.iald (a := 3) (st_Mt_addLeaps) rfl rfl (by decide) hg.1 hg.2 ?_
          obtain ⟨v5, hq, hv⟩ := Option.bind_eq_some_iff.mp hv
          refine jT.cSN (M1 := M_X_sideOf) [(0, h3 3 v4.toNat)] [] (st_Mt_addLeaps) rfl rfl ok_X_sideOf rfl (Nat.le_of_ble_eq_true rfl) (Nat.le_of_ble_eq_true rfl) rfl (Nat.le_of_ble_eq_true rfl) (C_X_sideOf hq) ?_
          show jG E _ 40 [(4, (0, v4)), (0, (2, ((14 : Nat) : Int))), (1, (2, ((2 : Nat) : Int))), (2, (0, x2)), (3, (0, l1))] [(0, v5)] h3 _ _
          refine jG.blk (st_Mt_addLeaps) 2 (pc1 := 44) (L1 := [(4, (0, v4)), (0, (2, ((14 : Nat) : Int))), (1, (2, ((2 : Nat) : Int))), (2, (0, x2)), (3, (0, l1))]) (st1 := [(0, h3 2 1), (0, v5)]) (h1 := h3) rfl ?_
          refine jT.if2 (st_Mt_addLeaps) rfl (tgt := 60) (by decide) (fun hc => ?_) (fun hc => ?_)
          · have hc : v5 = h3 2 1 := hc
            try rw [if_pos hc] at hv
            refine jG.blk (st_Mt_addLeaps) 1 (pc1 := 63) (L1 := [(3, (0, jadd l1 1)), (4, (0, v4)), (0, (2, ((14 : Nat) : Int))), (1, (2, ((2 : Nat) : Int))), (2, (0, x2))]) (st1 := []) (h1 := h3) rfl ?_
            refine jT.goto (st_Mt_addLeaps) rfl (tgt := 2) (by decide) ?_
            refine jG.subp [2, 3, 4, 0] (L1 := [(0, (2, ((14 : Nat) : Int))), (1, (2, ((2 : Nat) : Int))), (2, (0, x2)), (3, (0, jadd l1 1))]) rfl ?_
            exact ih _ _ _ hv
          · have hc : ¬ (v5 = h3 2 1) := hc
            try rw [if_neg hc] at hv
            refine jG.blk (st_Mt_addLeaps) 4 (pc1 := 54) (L1 := [(4, (0, v4)), (0, (2, ((14 : Nat) : Int))), (1, (2, ((2 : Nat) : Int))), (2, (0, x2)), (3, (0, l1))]) (st1 := [(0, v4), (2, ((14 + 1 : Nat) : Int)), (0, v4), (2, ((14 + 1 : Nat) : Int))]) (h1 := h3) rfl ?_
            obtain ⟨hg, hv⟩ := jgd_some hv
            refine jT.lald (a := 14 + 1) (st_Mt_addLeaps) rfl rfl (by decide) hg.1 hg.2 ?_
            refine jG.blk (st_Mt_addLeaps) 4 (pc1 := 59) (L1 := [(4, (0, v4)), (0, (2, ((14 : Nat) : Int))), (1, (2, ((2 : Nat) : Int))), (2, (0, x2)), (3, (0, l1))]) (st1 := [(1, jlor (h3 (14 + 1) v4.toNat) (jlshl 1 x2)), (0, v4), (2, ((14 + 1 : Nat) : Int))]) (h1 := h3) rfl ?_
            obtain ⟨hg, hv⟩ := jgd_some hv
            refine jT.last (a := 14 + 1) (st_Mt_addLeaps) rfl rfl (by decide) hg.1 hg.2 ?_
            refine jG.blk (st_Mt_addLeaps) 1 (pc1 := 63) (L1 := [(3, (0, jadd l1 1)), (4, (0, v4)), (0, (2, ((14 : Nat) : Int))), (1, (2, ((2 : Nat) : Int))), (2, (0, x2))]) (st1 := []) (h1 := jup h3 (14 + 1) v4.toNat (jlor (h3 (14 + 1) v4.toNat) (jlshl 1 x2))) rfl ?_
            refine jT.goto (st_Mt_addLeaps) rfl (tgt := 2) (by decide) ?_
            refine jG.subp [2, 3, 4, 0] (L1 := [(0, (2, ((14 : Nat) : Int))), (1, (2, ((2 : Nat) : Int))), (2, (0, x2)), (3, (0, jadd l1 1))]) rfl ?_
            exact ih _ _ _ hv
set_option maxRecDepth 100000 in
set_option maxHeartbeats 4000000 in
theorem C_Mt_addLeaps {E : jE} {t : Nat} (hr : t = 11 ∨ t = 14) {h : jH} {a2 : Int} {res : jH} (hv : f_Mt_addLeaps t h a2 = some res) : jC E M_Mt_addLeaps [(2, ((t : Nat) : Int)), (2, ((2 : Nat) : Int)), (0, a2)] h none res := by
  rcases hr with rfl | rfl
  · refine jC.of ok_Mt_addLeaps.1 (by rw [jlg]; exact Nat.le_of_ble_eq_true rfl) ?_
    show jG E _ 0 [(0, (2, ((11 : Nat) : Int))), (1, (2, ((2 : Nat) : Int))), (2, (0, a2))] [] h _ _
    unfold f_Mt_addLeaps at hv
    refine jG.blk (st_Mt_addLeaps) 2 (pc1 := 2) (L1 := [(3, (0, 0)), (0, (2, ((11 : Nat) : Int))), (1, (2, ((2 : Nat) : Int))), (2, (0, a2))]) (st1 := []) (h1 := h) rfl ?_
    refine jG.subp [1, 2, 3, 0] (L1 := [(0, (2, ((11 : Nat) : Int))), (1, (2, ((2 : Nat) : Int))), (2, (0, a2)), (3, (0, 0))]) rfl ?_
    refine f_Mt_addLeaps_lp2_ok E 11 (by decide) (fun l6 h7 res hv => ?_) 1000 _ _ _ hv
    · cases hv
      exact jT.vret (st_Mt_addLeaps) rfl trivial
  · refine jC.of ok_Mt_addLeaps.1 (by rw [jlg]; exact Nat.le_of_ble_eq_true rfl) ?_
    show jG E _ 0 [(0, (2, ((14 : Nat) : Int))), (1, (2, ((2 : Nat) : Int))), (2, (0, a2))] [] h _ _
    unfold f_Mt_addLeaps at hv
    refine jG.blk (st_Mt_addLeaps) 2 (pc1 := 2) (L1 := [(3, (0, 0)), (0, (2, ((14 : Nat) : Int))), (1, (2, ((2 : Nat) : Int))), (2, (0, a2))]) (st1 := []) (h1 := h) rfl ?_
    refine jG.subp [1, 2, 3, 0] (L1 := [(0, (2, ((14 : Nat) : Int))), (1, (2, ((2 : Nat) : Int))), (2, (0, a2)), (3, (0, 0))]) rfl ?_
    refine f_Mt_addLeaps_lp2_ok E 14 (by decide) (fun l6 h7 res hv => ?_) 1000 _ _ _ hv
    · cases hv
      exact jT.vret (st_Mt_addLeaps) rfl trivial
def f_Mt_addAlong_lp6 (t : Nat) (x3 : Int) (x4 : Int) (x5 : Int) (k : Int → Int → jH → Option (jH)) : Nat → Int → Int → jH → Option (jH)
  | 0, _, _, _ => none
  | n + 1, l1, l2, h6 => if x5 < l2 then k l1 l2 h6 else jgd (0 ≤ x4 ∧ x4 < (((jxc.getD 1 []).length : Nat) : Int)) (jgd (0 ≤ x4 ∧ x4 < (((jxc.getD 2 []).length : Nat) : Int)) ((f_X_shifted h6 l1 ((jxc.getD 1 []).getD x4.toNat 0) ((jxc.getD 2 []).getD x4.toNat 0)).bind fun v7 => if v7 = (-1) then some h6 else jgd (0 ≤ v7 ∧ v7 < 64) ((f_X_sideOf h6 (h6 3 v7.toNat)).bind fun v8 => if v8 = h6 2 1 then some h6 else jgd (0 ≤ v7 ∧ v7 < 64) (jgd (0 ≤ v7 ∧ v7 < 64) (jgd (0 ≤ v7 ∧ v7 < 64) (if (jup h6 (t + 1) v7.toNat (jlor (h6 (t + 1) v7.toNat) (jlshl 1 x3))) 3 v7.toNat = 0 then f_Mt_addAlong_lp6 t x3 x4 x5 k n v7 (jadd l2 1) (jup h6 (t + 1) v7.toNat (jlor (h6 (t + 1) v7.toNat) (jlshl 1 x3))) else some (jup h6 (t + 1) v7.toNat (jlor (h6 (t + 1) v7.toNat) (jlshl 1 x3)))))))))
def f_Mt_addAlong (t : Nat) (h : jH) (a2 : Int) (a3 : Int) (a4 : Int) : Option (jH) := f_Mt_addAlong_lp6 t a2 a3 a4 (fun l9 l10 h11 => some h11) 1000 a2 1 h
set_option maxRecDepth 100000 in
set_option maxHeartbeats 4000000 in
theorem f_Mt_addAlong_lp6_ok (E : jE) (t : Nat) (hr : t = 11 ∨ t = 14) {x3 : Int} {x4 : Int} {x5 : Int} {k : Int → Int → jH → Option (jH)} (hk : ∀ (l1 : Int) (l2 : Int) (h6 : jH) (res : jH), k l1 l2 h6 = some res → jG E M_Mt_addAlong 84 [] [] h6 none res) : ∀ (n : Nat) (l1 : Int) (l2 : Int) (h6 : jH) (res : jH), f_Mt_addAlong_lp6 t x3 x4 x5 k n l1 l2 h6 = some res → jG E M_Mt_addAlong 6 [(0, (2, ((t : Nat) : Int))), (1, (2, ((2 : Nat) : Int))), (2, (0, x3)), (3, (0, x4)), (4, (0, x5)), (5, (0, l1)), (6, (0, l2))] [] h6 none res := by
  rcases hr with rfl | rfl
  · intro n
    induction n with
    | zero => intro l1 l2 h6 res hv; cases hv
    | succ n ih =>
      intro l1 l2 h6 res hv
      rw [f_Mt_addAlong_lp6] at hv
      refine jG.blk (st_Mt_addAlong) 2 (pc1 := 10) (L1 := [(0, (2, ((11 : Nat) : Int))), (1, (2, ((2 : Nat) : Int))), (2, (0, x3)), (3, (0, x4)), (4, (0, x5)), (5, (0, l1)), (6, (0, l2))]) (st1 := [(0, x5), (0, l2)]) (h1 := h6) rfl ?_
      refine jT.if2 (st_Mt_addAlong) rfl (tgt := 84) (by decide) (fun hc => ?_) (fun hc => ?_)
      · have hc : x5 < l2 := hc
        try rw [if_pos hc] at hv
        refine jG.subp [] (L1 := []) rfl ?_
        exact hk _ _ _ _ hv
      · have hc : ¬ (x5 < l2) := hc
        try rw [if_neg hc] at hv
        refine jG.blk (st_Mt_addAlong) 3 (pc1 := 19) (L1 := [(0, (2, ((11 : Nat) : Int))), (1, (2, ((2 : Nat) : Int))), (2, (0, x3)), (3, (0, x4)), (4, (0, x5)), (5, (0, l1)), (6, (0, l2))]) (st1 := [(0, x4), (3, ((1 : Nat) : Int)), (0, l1)]) (h1 := h6) rfl ?_
        obtain ⟨hg, hv⟩ := jgd_some hv
        refine jT.xald (x := 1) (st_Mt_addAlong) rfl (by decide) rfl (jxl_small (by decide) (by decide)) hg.1 hg.2 (jxc_ok _ _) ?_
        refine jG.blk (st_Mt_addAlong) 2 (pc1 := 24) (L1 := [(0, (2, ((11 : Nat) : Int))), (1, (2, ((2 : Nat) : Int))), (2, (0, x3)), (3, (0, x4)), (4, (0, x5)), (5, (0, l1)), (6, (0, l2))]) (st1 := [(0, x4), (3, ((2 : Nat) : Int)), (0, (jxc.getD 1 []).getD x4.toNat 0), (0, l1)]) (h1 := h6) rfl ?_
        obtain ⟨hg, hv⟩ := jgd_some hv
        refine jT.xald (x := 2) (st_Mt_addAlong) rfl (by decide) rfl (jxl_small (by decide) (by decide)) hg.1 hg.2 (jxc_ok _ _) ?_
        obtain ⟨v7, hq, hv⟩ := Option.bind_eq_some_iff.mp hv
        refine jT.cSN (M1 := M_X_shifted) [(0, l1), (0, (jxc.getD 1 []).getD x4.toNat 0), (0, (jxc.getD 2 []).getD x4.toNat 0)] [] (st_Mt_addAlong) rfl rfl ok_X_shifted rfl (Nat.le_of_ble_eq_true rfl) (Nat.le_of_ble_eq_true rfl) rfl (Nat.le_of_ble_eq_true rfl) (C_X_shifted hq) ?_
        show jG E _ 28 [(0, (2, ((11 : Nat) : Int))), (1, (2, ((2 : Nat) : Int))), (2, (0, x3)), (3, (0, x4)), (4, (0, x5)), (5, (0, l1)), (6, (0, l2))] [(0, v7)] h6 _ _
        refine jG.blk (st_Mt_addAlong) 3 (pc1 := 33) (L1 := [(5, (0, v7)), (0, (2, ((11 : Nat) : Int))), (1, (2, ((2 : Nat) : Int))), (2, (0, x3)), (3, (0, x4)), (4, (0, x5)), (6, (0, l2))]) (st1 := [(0, (-1)), (0, v7)]) (h1 := h6) rfl ?_
        refine jT.if2 (st_Mt_addAlong) rfl (tgt := 53) (by decide) (fun hc => ?_) (fun hc => ?_)
        · have hc : v7 = (-1) := hc
          try rw [if_pos hc] at hv
          cases hv
          exact jT.vret (st_Mt_addAlong) rfl trivial
        · have hc : ¬ (v7 = (-1)) := hc
          try rw [if_neg hc] at hv
          refine jG.blk (st_Mt_addAlong) 3 (pc1 := 42) (L1 := [(5, (0, v7)), (0, (2, ((11 : Nat) : Int))), (1, (2, ((2 : Nat) : Int))), (2, (0, x3)), (3, (0, x4)), (4, (0, x5)), (6, (0, l2))]) (st1 := [(0, v7), (2, ((3 : Nat) : Int))]) (h1 := h6) rfl ?_
          obtain ⟨hg, hv⟩ := jgd_some hv
          refine jT.iald (a := 3) (st_Mt_addAlong) rfl rfl (by decide) hg.1 hg.2 ?_
          obtain ⟨v8, hq, hv⟩ := Option.bind_eq_some_iff.mp hv
          refine jT.cSN (M1 := M_X_sideOf) [(0, h6 3 v7.toNat)] [] (st_Mt_addAlong) rfl rfl ok_X_sideOf rfl (Nat.le_of_ble_eq_true rfl) (Nat.le_of_ble_eq_true rfl) rfl (Nat.le_of_ble_eq_true rfl) (C_X_sideOf hq) ?_
          show jG E _ 46 [(5, (0, v7)), (0, (2, ((11 : Nat) : Int))), (1, (2, ((2 : Nat) : Int))), (2, (0, x3)), (3, (0, x4)), (4, (0, x5)), (6, (0, l2))] [(0, v8)] h6 _ _
          refine jG.blk (st_Mt_addAlong) 2 (pc1 := 50) (L1 := [(5, (0, v7)), (0, (2, ((11 : Nat) : Int))), (1, (2, ((2 : Nat) : Int))), (2, (0, x3)), (3, (0, x4)), (4, (0, x5)), (6, (0, l2))]) (st1 := [(0, h6 2 1), (0, v8)]) (h1 := h6) rfl ?_
          refine jT.if2 (st_Mt_addAlong) rfl (tgt := 54) (by decide) (fun hc => ?_) (fun hc => ?_)
          · have hc : ¬ (v8 = h6 2 1) := hc
            try rw [if_neg hc] at hv
            refine jG.blk (st_Mt_addAlong) 4 (pc1 := 61) (L1 := [(5, (0, v7)), (0, (2, ((11 : Nat) : Int))), (1, (2, ((2 : Nat) : Int))), (2, (0, x3)), (3, (0, x4)), (4, (0, x5)), (6, (0, l2))]) (st1 := [(0, v7), (2, ((11 + 1 : Nat) : Int)), (0, v7), (2, ((11 + 1 : Nat) : Int))]) (h1 := h6) rfl ?_
            obtain ⟨hg, hv⟩ := jgd_some hv
            refine jT.lald (a := 11 + 1) (st_Mt_addAlong) rfl rfl (by decide) hg.1 hg.2 ?_
            refine jG.blk (st_Mt_addAlong) 4 (pc1 := 66) (L1 := [(5, (0, v7)), (0, (2, ((11 : Nat) : Int))), (1, (2, ((2 : Nat) : Int))), (2, (0, x3)), (3, (0, x4)), (4, (0, x5)), (6, (0, l2))]) (st1 := [(1, jlor (h6 (11 + 1) v7.toNat) (jlshl 1 x3)), (0, v7), (2, ((11 + 1 : Nat) : Int))]) (h1 := h6) rfl ?_
            obtain ⟨hg, hv⟩ := jgd_some hv
            refine jT.last (a := 11 + 1) (st_Mt_addAlong) rfl rfl (by decide) hg.1 hg.2 ?_
            refine jG.blk (st_Mt_addAlong) 3 (pc1 := 73) (L1 := [(5, (0, v7)), (0, (2, ((11 : Nat) : Int))), (1, (2, ((2 : Nat) : Int))), (2, (0, x3)), (3, (0, x4)), (4, (0, x5)), (6, (0, l2))]) (st1 := [(0, v7), (2, ((3 : Nat) : Int))]) (h1 := jup h6 (11 + 1) v7.toNat (jlor (h6 (11 + 1) v7.toNat) (jlshl 1 x3))) rfl ?_
            obtain ⟨hg, hv⟩ := jgd_some hv
            refine jT.iald (a := 3) (st_Mt_addAlong) rfl rfl (by decide) hg.1 hg.2 ?_
            refine jT.if1 (st_Mt_addAlong) rfl (tgt := 78) (by decide) (fun hc => ?_) (fun hc => ?_)
            · have hc : (jup h6 (11 + 1) v7.toNat (jlor (h6 (11 + 1) v7.toNat) (jlshl 1 x3))) 3 v7.toNat = 0 := hc
              try rw [if_pos hc] at hv
              refine jG.blk (st_Mt_addAlong) 1 (pc1 := 81) (L1 := [(6, (0, jadd l2 1)), (5, (0, v7)), (0, (2, ((11 : Nat) : Int))), (1, (2, ((2 : Nat) : Int))), (2, (0, x3)), (3, (0, x4)), (4, (0, x5))]) (st1 := []) (h1 := jup h6 (11 + 1) v7.toNat (jlor (h6 (11 + 1) v7.toNat) (jlshl 1 x3))) rfl ?_
              refine jT.goto (st_Mt_addAlong) rfl (tgt := 6) (by decide) ?_
              refine jG.subp [2, 3, 4, 5, 6, 1, 0] (L1 := [(0, (2, ((11 : Nat) : Int))), (1, (2, ((2 : Nat) : Int))), (2, (0, x3)), (3, (0, x4)), (4, (0, x5)), (5, (0, v7)), (6, (0, jadd l2 1))]) rfl ?_
              exact ih _ _ _ _ hv
            · have hc : ¬ ((jup h6 (11 + 1) v7.toNat (jlor (h6 (11 + 1) v7.toNat) (jlshl 1 x3))) 3 v7.toNat = 0) := hc
              try rw [if_neg hc] at hv
              cases hv
              exact jT.vret (st_Mt_addAlong) rfl trivial
          · have hc : v8 = h6 2 1 := Decidable.not_not.mp hc
            try rw [if_pos hc] at hv
            cases hv
            exact jT.vret (st_Mt_addAlong) rfl trivial
  · intro n
    induction n with
    | zero => intro l1 l2 h6 res hv; cases hv
    | succ n ih =>
      intro l1 l2 h6 res hv
      rw [f_Mt_addAlong_lp6] at hv
      refine jG.blk (st_Mt_addAlong) 2 (pc1 := 10) (L1 := [(0, (2, ((14 : Nat) : Int))), (1, (2, ((2 : Nat) : Int))), (2, (0, x3)), (3, (0, x4)), (4, (0, x5)), (5, (0, l1)), (6, (0, l2))]) (st1 := [(0, x5), (0, l2)]) (h1 := h6) rfl ?_
      refine jT.if2 (st_Mt_addAlong) rfl (tgt := 84) (by decide) (fun hc => ?_) (fun hc => ?_)
      · have hc : x5 < l2 := hc
        try rw [if_pos hc] at hv
        refine jG.subp [] (L1 := []) rfl ?_
        exact hk _ _ _ _ hv
      · have hc : ¬ (x5 < l2) := hc
        try rw [if_neg hc] at hv
        refine jG.blk (st_Mt_addAlong) 3 (pc1 := 19) (L1 := [(0, (2, ((14 : Nat) : Int))), (1, (2, ((2 : Nat) : Int))), (2, (0, x3)), (3, (0, x4)), (4, (0, x5)), (5, (0, l1)), (6, (0, l2))]) (st1 := [(0, x4), (3, ((1 : Nat) : Int)), (0, l1)]) (h1 := h6) rfl ?_
        obtain ⟨hg, hv⟩ := jgd_some hv
        refine jT.xald (x := 1) (st_Mt_addAlong) rfl (by decide) rfl (jxl_small (by decide) (by decide)) hg.1 hg.2 (jxc_ok _ _) ?_
        refine jG.blk (st_Mt_addAlong) 2 (pc1 := 24) (L1 := [(0, (2, ((14 : Nat) : Int))), (1, (2, ((2 : Nat) : Int))), (2, (0, x3)), (3, (0, x4)), (4, (0, x5)), (5, (0, l1)), (6, (0, l2))]) (st1 := [(0, x4), (3, ((2 : Nat) : Int)), (0, (jxc.getD 1 []).getD x4.toNat 0), (0, l1)]) (h1 := h6) rfl ?_
        obtain ⟨hg, hv⟩ := jgd_some hv
        refine jT.xald (x := 2) (st_Mt_addAlong) rfl (by decide) rfl (jxl_small (by decide) (by decide)) hg.1 hg.2 (jxc_ok _ _) ?_
        obtain ⟨v7, hq, hv⟩ := Option.bind_eq_some_iff.mp hv
        refine jT.cSN (M1 := M_X_shifted) [(0, l1), (0, (jxc.getD 1 []).getD x4.toNat 0), (0, (jxc.getD 2 []).getD x4.toNat 0)] [] (st_Mt_addAlong) rfl rfl ok_X_shifted rfl (Nat.le_of_ble_eq_true rfl) (Nat.le_of_ble_eq_true rfl) rfl (Nat.le_of_ble_eq_true rfl) (C_X_shifted hq) ?_
        show jG E _ 28 [(0, (2, ((14 : Nat) : Int))), (1, (2, ((2 : Nat) : Int))), (2, (0, x3)), (3, (0, x4)), (4, (0, x5)), (5, (0, l1)), (6, (0, l2))] [(0, v7)] h6 _ _
        refine jG.blk (st_Mt_addAlong) 3 (pc1 := 33) (L1 := [(5, (0, v7)), (0, (2, ((14 : Nat) : Int))), (1, (2, ((2 : Nat) : Int))), (2, (0, x3)), (3, (0, x4)), (4, (0, x5)), (6, (0, l2))]) (st1 := [(0, (-1)), (0, v7)]) (h1 := h6) rfl ?_
        refine jT.if2 (st_Mt_addAlong) rfl (tgt := 53) (by decide) (fun hc => ?_) (fun hc => ?_)
        · have hc : v7 = (-1) := hc
          try rw [if_pos hc] at hv
          cases hv
          exact jT.vret (st_Mt_addAlong) rfl trivial
        · have hc : ¬ (v7 = (-1)) := hc
          try rw [if_neg hc] at hv
          refine jG.blk (st_Mt_addAlong) 3 (pc1 := 42) (L1 := [(5, (0, v7)), (0, (2, ((14 : Nat) : Int))), (1, (2, ((2 : Nat) : Int))), (2, (0, x3)), (3, (0, x4)), (4, (0, x5)), (6, (0, l2))]) (st1 := [(0, v7), (2, ((3 : Nat) : Int))]) (h1 := h6) rfl ?_
          obtain ⟨hg, hv⟩ := jgd_some hv
          refine jT.iald (a := 3) (st_Mt_addAlong) rfl rfl (by decide) hg.1 hg.2 ?_
          obtain ⟨v8, hq, hv⟩ := Option.bind_eq_some_iff.mp hv
          refine jT.cSN (M1 := M_X_sideOf) [(0, h6 3 v7.toNat)] [] (st_Mt_addAlong) rfl rfl ok_X_sideOf rfl (Nat.le_of_ble_eq_true rfl) (Nat.le_of_ble_eq_true rfl) rfl (Nat.le_of_ble_eq_true rfl) (C_X_sideOf hq) ?_
          show jG E _ 46 [(5, (0, v7)), (0, (2, ((14 : Nat) : Int))), (1, (2, ((2 : Nat) : Int))), (2, (0, x3)), (3, (0, x4)), (4, (0, x5)), (6, (0, l2))] [(0, v8)] h6 _ _
          refine jG.blk (st_Mt_addAlong) 2 (pc1 := 50) (L1 := [(5, (0, v7)), (0, (2, ((14 : Nat) : Int))), (1, (2, ((2 : Nat) : Int))), (2, (0, x3)), (3, (0, x4)), (4, (0, x5)), (6, (0, l2))]) (st1 := [(0, h6 2 1), (0, v8)]) (h1 := h6) rfl ?_
          refine jT.if2 (st_Mt_addAlong) rfl (tgt := 54) (by decide) (fun hc => ?_) (fun hc => ?_)
          · have hc : ¬ (v8 = h6 2 1) := hc
            try rw [if_neg hc] at hv
            refine jG.blk (st_Mt_addAlong) 4 (pc1 := 61) (L1 := [(5, (0, v7)), (0, (2, ((14 : Nat) : Int))), (1, (2, ((2 : Nat) : Int))), (2, (0, x3)), (3, (0, x4)), (4, (0, x5)), (6, (0, l2))]) (st1 := [(0, v7), (2, ((14 + 1 : Nat) : Int)), (0, v7), (2, ((14 + 1 : Nat) : Int))]) (h1 := h6) rfl ?_
            obtain ⟨hg, hv⟩ := jgd_some hv
            refine jT.lald (a := 14 + 1) (st_Mt_addAlong) rfl rfl (by decide) hg.1 hg.2 ?_
            refine jG.blk (st_Mt_addAlong) 4 (pc1 := 66) (L1 := [(5, (0, v7)), (0, (2, ((14 : Nat) : Int))), (1, (2, ((2 : Nat) : Int))), (2, (0, x3)), (3, (0, x4)), (4, (0, x5)), (6, (0, l2))]) (st1 := [(1, jlor (h6 (14 + 1) v7.toNat) (jlshl 1 x3)), (0, v7), (2, ((14 + 1 : Nat) : Int))]) (h1 := h6) rfl ?_
            obtain ⟨hg, hv⟩ := jgd_some hv
            refine jT.last (a := 14 + 1) (st_Mt_addAlong) rfl rfl (by decide) hg.1 hg.2 ?_
            refine jG.blk (st_Mt_addAlong) 3 (pc1 := 73) (L1 := [(5, (0, v7)), (0, (2, ((14 : Nat) : Int))), (1, (2, ((2 : Nat) : Int))), (2, (0, x3)), (3, (0, x4)), (4, (0, x5)), (6, (0, l2))]) (st1 := [(0, v7), (2, ((3 : Nat) : Int))]) (h1 := jup h6 (14 + 1) v7.toNat (jlor (h6 (14 + 1) v7.toNat) (jlshl 1 x3))) rfl ?_
            obtain ⟨hg, hv⟩ := jgd_some hv
            refine jT.iald (a := 3) (st_Mt_addAlong) rfl rfl (by decide) hg.1 hg.2 ?_
            refine jT.if1 (st_Mt_addAlong) rfl (tgt := 78) (by decide) (fun hc => ?_) (fun hc => ?_)
            · have hc : (jup h6 (14 + 1) v7.toNat (jlor (h6 (14 + 1) v7.toNat) (jlshl 1 x3))) 3 v7.toNat = 0 := hc
              try rw [if_pos hc] at hv
              refine jG.blk (st_Mt_addAlong) 1 (pc1 := 81) (L1 := [(6, (0, jadd l2 1)), (5, (0, v7)), (0, (2, ((14 : Nat) : Int))), (1, (2, ((2 : Nat) : Int))), (2, (0, x3)), (3, (0, x4)), (4, (0, x5))]) (st1 := []) (h1 := jup h6 (14 + 1) v7.toNat (jlor (h6 (14 + 1) v7.toNat) (jlshl 1 x3))) rfl ?_
              refine jT.goto (st_Mt_addAlong) rfl (tgt := 6) (by decide) ?_
              refine jG.subp [2, 3, 4, 5, 6, 1, 0] (L1 := [(0, (2, ((14 : Nat) : Int))), (1, (2, ((2 : Nat) : Int))), (2, (0, x3)), (3, (0, x4)), (4, (0, x5)), (5, (0, v7)), (6, (0, jadd l2 1))]) rfl ?_
              exact ih _ _ _ _ hv
            · have hc : ¬ ((jup h6 (14 + 1) v7.toNat (jlor (h6 (14 + 1) v7.toNat) (jlshl 1 x3))) 3 v7.toNat = 0) := hc
              try rw [if_neg hc] at hv
              cases hv
              exact jT.vret (st_Mt_addAlong) rfl trivial
          · have hc : v8 = h6 2 1 := Decidable.not_not.mp hc
            try rw [if_pos hc] at hv
            cases hv
            exact jT.vret (st_Mt_addAlong) rfl trivial
set_option maxRecDepth 100000 in
set_option maxHeartbeats 4000000 in
theorem C_Mt_addAlong {E : jE} {t : Nat} (hr : t = 11 ∨ t = 14) {h : jH} {a2 : Int} {a3 : Int} {a4 : Int} {res : jH} (hv : f_Mt_addAlong t h a2 a3 a4 = some res) : jC E M_Mt_addAlong [(2, ((t : Nat) : Int)), (2, ((2 : Nat) : Int)), (0, a2), (0, a3), (0, a4)] h none res := by
  rcases hr with rfl | rfl
  · refine jC.of ok_Mt_addAlong.1 (by rw [jlg]; exact Nat.le_of_ble_eq_true rfl) ?_
    show jG E _ 0 [(0, (2, ((11 : Nat) : Int))), (1, (2, ((2 : Nat) : Int))), (2, (0, a2)), (3, (0, a3)), (4, (0, a4))] [] h _ _
    unfold f_Mt_addAlong at hv
    refine jG.blk (st_Mt_addAlong) 4 (pc1 := 6) (L1 := [(6, (0, 1)), (5, (0, a2)), (0, (2, ((11 : Nat) : Int))), (1, (2, ((2 : Nat) : Int))), (2, (0, a2)), (3, (0, a3)), (4, (0, a4))]) (st1 := []) (h1 := h) rfl ?_
    refine jG.subp [2, 3, 4, 5, 6, 1, 0] (L1 := [(0, (2, ((11 : Nat) : Int))), (1, (2, ((2 : Nat) : Int))), (2, (0, a2)), (3, (0, a3)), (4, (0, a4)), (5, (0, a2)), (6, (0, 1))]) rfl ?_
    refine f_Mt_addAlong_lp6_ok E 11 (by decide) (fun l9 l10 h11 res hv => ?_) 1000 _ _ _ _ hv
    · cases hv
      exact jT.vret (st_Mt_addAlong) rfl trivial
  · refine jC.of ok_Mt_addAlong.1 (by rw [jlg]; exact Nat.le_of_ble_eq_true rfl) ?_
    show jG E _ 0 [(0, (2, ((14 : Nat) : Int))), (1, (2, ((2 : Nat) : Int))), (2, (0, a2)), (3, (0, a3)), (4, (0, a4))] [] h _ _
    unfold f_Mt_addAlong at hv
    refine jG.blk (st_Mt_addAlong) 4 (pc1 := 6) (L1 := [(6, (0, 1)), (5, (0, a2)), (0, (2, ((14 : Nat) : Int))), (1, (2, ((2 : Nat) : Int))), (2, (0, a2)), (3, (0, a3)), (4, (0, a4))]) (st1 := []) (h1 := h) rfl ?_
    refine jG.subp [2, 3, 4, 5, 6, 1, 0] (L1 := [(0, (2, ((14 : Nat) : Int))), (1, (2, ((2 : Nat) : Int))), (2, (0, a2)), (3, (0, a3)), (4, (0, a4)), (5, (0, a2)), (6, (0, 1))]) rfl ?_
    refine f_Mt_addAlong_lp6_ok E 14 (by decide) (fun l9 l10 h11 res hv => ?_) 1000 _ _ _ _ hv
    · cases hv
      exact jT.vret (st_Mt_addAlong) rfl trivial
def f_Mt_addPiece_lp47 (t : Nat) (x3 : Int) (x4 : Int) (k : Int → jH → Option (jH)) : Nat → Int → jH → Option (jH)
  | 0, _, _ => none
  | n + 1, l2, h5 => if 8 ≤ l2 then k l2 h5 else (f_X_reachOf h5 x4 l2).bind fun v6 => (f_Mt_addAlong t h5 x3 l2 v6).bind fun v7 => f_Mt_addPiece_lp47 t x3 x4 k n (jadd l2 1) v7
def f_Mt_addPiece (t : Nat) (h : jH) (a2 : Int) : Option (jH) := jgd (0 ≤ a2 ∧ a2 < 64) ((f_X_kindOf h (h 3 a2.toNat)).bind fun v1 => if v1 = 1 then (f_Mt_addSteps t h a2).bind fun v11 => (f_Mt_addTakes t v11 a2).bind fun v12 => some v12 else if v1 = 2 then (f_Mt_addLeaps t h a2).bind fun v10 => some v10 else f_Mt_addPiece_lp47 t a2 v1 (fun l8 h9 => some h9) 1000 0 h)
set_option maxRecDepth 100000 in
set_option maxHeartbeats 4000000 in
theorem f_Mt_addPiece_lp47_ok (E : jE) (t : Nat) (hr : t = 11 ∨ t = 14) {x3 : Int} {x4 : Int} {k : Int → jH → Option (jH)} (hk : ∀ (l2 : Int) (h5 : jH) (res : jH), k l2 h5 = some res → jG E M_Mt_addPiece 74 [] [] h5 none res) : ∀ (n : Nat) (l2 : Int) (h5 : jH) (res : jH), f_Mt_addPiece_lp47 t x3 x4 k n l2 h5 = some res → jG E M_Mt_addPiece 47 [(0, (2, ((t : Nat) : Int))), (1, (2, ((2 : Nat) : Int))), (2, (0, x3)), (3, (0, x4)), (4, (0, l2))] [] h5 none res := by
  rcases hr with rfl | rfl
  · intro n
    induction n with
    | zero => intro l2 h5 res hv; cases hv
    | succ n ih =>
      intro l2 h5 res hv
      rw [f_Mt_addPiece_lp47] at hv
      refine jG.blk (st_Mt_addPiece) 2 (pc1 := 51) (L1 := [(0, (2, ((11 : Nat) : Int))), (1, (2, ((2 : Nat) : Int))), (2, (0, x3)), (3, (0, x4)), (4, (0, l2))]) (st1 := [(0, 8), (0, l2)]) (h1 := h5) rfl ?_
      refine jT.if2 (st_Mt_addPiece) rfl (tgt := 74) (by decide) (fun hc => ?_) (fun hc => ?_)
      · have hc : 8 ≤ l2 := hc
        try rw [if_pos hc] at hv
        refine jG.subp [] (L1 := []) rfl ?_
        exact hk _ _ _ hv
      · have hc : ¬ (8 ≤ l2) := hc
        try rw [if_neg hc] at hv
        refine jG.blk (st_Mt_addPiece) 6 (pc1 := 62) (L1 := [(0, (2, ((11 : Nat) : Int))), (1, (2, ((2 : Nat) : Int))), (2, (0, x3)), (3, (0, x4)), (4, (0, l2))]) (st1 := [(0, l2), (0, x4), (0, l2), (0, x3), (2, ((2 : Nat) : Int)), (2, ((11 : Nat) : Int))]) (h1 := h5) rfl ?_
        obtain ⟨v6, hq, hv⟩ := Option.bind_eq_some_iff.mp hv
        refine jT.cSN (M1 := M_X_reachOf) [(0, x4), (0, l2)] [(0, l2), (0, x3), (2, ((2 : Nat) : Int)), (2, ((11 : Nat) : Int))] (st_Mt_addPiece) rfl rfl ok_X_reachOf rfl (Nat.le_of_ble_eq_true rfl) (Nat.le_of_ble_eq_true rfl) rfl (Nat.le_of_ble_eq_true rfl) (C_X_reachOf hq) ?_
        show jG E _ 65 [(0, (2, ((11 : Nat) : Int))), (1, (2, ((2 : Nat) : Int))), (2, (0, x3)), (3, (0, x4)), (4, (0, l2))] [(0, v6), (0, l2), (0, x3), (2, ((2 : Nat) : Int)), (2, ((11 : Nat) : Int))] h5 _ _
        obtain ⟨v7, hq, hv⟩ := Option.bind_eq_some_iff.mp hv
        refine jT.cV (M1 := M_Mt_addAlong) (2, ((11 : Nat) : Int)) [(2, ((2 : Nat) : Int)), (0, x3), (0, l2), (0, v6)] [] (st_Mt_addPiece) rfl rfl ok_Mt_addAlong rfl (Or.inl ⟨rfl, _, _, _, rfl, rfl⟩) (Nat.le_of_ble_eq_true rfl) (Nat.le_of_ble_eq_true rfl) rfl (Nat.le_of_ble_eq_true rfl) (C_Mt_addAlong (by decide) hq) ?_
        show jG E _ 68 [(0, (2, ((11 : Nat) : Int))), (1, (2, ((2 : Nat) : Int))), (2, (0, x3)), (3, (0, x4)), (4, (0, l2))] [] v7 _ _
        refine jG.blk (st_Mt_addPiece) 1 (pc1 := 71) (L1 := [(4, (0, jadd l2 1)), (0, (2, ((11 : Nat) : Int))), (1, (2, ((2 : Nat) : Int))), (2, (0, x3)), (3, (0, x4))]) (st1 := []) (h1 := v7) rfl ?_
        refine jT.goto (st_Mt_addPiece) rfl (tgt := 47) (by decide) ?_
        refine jG.subp [1, 2, 3, 4, 0] (L1 := [(0, (2, ((11 : Nat) : Int))), (1, (2, ((2 : Nat) : Int))), (2, (0, x3)), (3, (0, x4)), (4, (0, jadd l2 1))]) rfl ?_
        exact ih _ _ _ hv
  · intro n
    induction n with
    | zero => intro l2 h5 res hv; cases hv
    | succ n ih =>
      intro l2 h5 res hv
      rw [f_Mt_addPiece_lp47] at hv
      refine jG.blk (st_Mt_addPiece) 2 (pc1 := 51) (L1 := [(0, (2, ((14 : Nat) : Int))), (1, (2, ((2 : Nat) : Int))), (2, (0, x3)), (3, (0, x4)), (4, (0, l2))]) (st1 := [(0, 8), (0, l2)]) (h1 := h5) rfl ?_
      refine jT.if2 (st_Mt_addPiece) rfl (tgt := 74) (by decide) (fun hc => ?_) (fun hc => ?_)
      · have hc : 8 ≤ l2 := hc
        try rw [if_pos hc] at hv
        refine jG.subp [] (L1 := []) rfl ?_
        exact hk _ _ _ hv
      · have hc : ¬ (8 ≤ l2) := hc
        try rw [if_neg hc] at hv
        refine jG.blk (st_Mt_addPiece) 6 (pc1 := 62) (L1 := [(0, (2, ((14 : Nat) : Int))), (1, (2, ((2 : Nat) : Int))), (2, (0, x3)), (3, (0, x4)), (4, (0, l2))]) (st1 := [(0, l2), (0, x4), (0, l2), (0, x3), (2, ((2 : Nat) : Int)), (2, ((14 : Nat) : Int))]) (h1 := h5) rfl ?_
        obtain ⟨v6, hq, hv⟩ := Option.bind_eq_some_iff.mp hv
        refine jT.cSN (M1 := M_X_reachOf) [(0, x4), (0, l2)] [(0, l2), (0, x3), (2, ((2 : Nat) : Int)), (2, ((14 : Nat) : Int))] (st_Mt_addPiece) rfl rfl ok_X_reachOf rfl (Nat.le_of_ble_eq_true rfl) (Nat.le_of_ble_eq_true rfl) rfl (Nat.le_of_ble_eq_true rfl) (C_X_reachOf hq) ?_
        show jG E _ 65 [(0, (2, ((14 : Nat) : Int))), (1, (2, ((2 : Nat) : Int))), (2, (0, x3)), (3, (0, x4)), (4, (0, l2))] [(0, v6), (0, l2), (0, x3), (2, ((2 : Nat) : Int)), (2, ((14 : Nat) : Int))] h5 _ _
        obtain ⟨v7, hq, hv⟩ := Option.bind_eq_some_iff.mp hv
        refine jT.cV (M1 := M_Mt_addAlong) (2, ((14 : Nat) : Int)) [(2, ((2 : Nat) : Int)), (0, x3), (0, l2), (0, v6)] [] (st_Mt_addPiece) rfl rfl ok_Mt_addAlong rfl (Or.inl ⟨rfl, _, _, _, rfl, rfl⟩) (Nat.le_of_ble_eq_true rfl) (Nat.le_of_ble_eq_true rfl) rfl (Nat.le_of_ble_eq_true rfl) (C_Mt_addAlong (by decide) hq) ?_
        show jG E _ 68 [(0, (2, ((14 : Nat) : Int))), (1, (2, ((2 : Nat) : Int))), (2, (0, x3)), (3, (0, x4)), (4, (0, l2))] [] v7 _ _
        refine jG.blk (st_Mt_addPiece) 1 (pc1 := 71) (L1 := [(4, (0, jadd l2 1)), (0, (2, ((14 : Nat) : Int))), (1, (2, ((2 : Nat) : Int))), (2, (0, x3)), (3, (0, x4))]) (st1 := []) (h1 := v7) rfl ?_
        refine jT.goto (st_Mt_addPiece) rfl (tgt := 47) (by decide) ?_
        refine jG.subp [1, 2, 3, 4, 0] (L1 := [(0, (2, ((14 : Nat) : Int))), (1, (2, ((2 : Nat) : Int))), (2, (0, x3)), (3, (0, x4)), (4, (0, jadd l2 1))]) rfl ?_
        exact ih _ _ _ hv
set_option maxRecDepth 100000 in
set_option maxHeartbeats 4000000 in
theorem C_Mt_addPiece {E : jE} {t : Nat} (hr : t = 11 ∨ t = 14) {h : jH} {a2 : Int} {res : jH} (hv : f_Mt_addPiece t h a2 = some res) : jC E M_Mt_addPiece [(2, ((t : Nat) : Int)), (2, ((2 : Nat) : Int)), (0, a2)] h none res := by
  rcases hr with rfl | rfl
  · refine jC.of ok_Mt_addPiece.1 (by rw [jlg]; exact Nat.le_of_ble_eq_true rfl) ?_
    show jG E _ 0 [(0, (2, ((11 : Nat) : Int))), (1, (2, ((2 : Nat) : Int))), (2, (0, a2))] [] h _ _
    unfold f_Mt_addPiece at hv
    refine jG.blk (st_Mt_addPiece) 3 (pc1 := 5) (L1 := [(0, (2, ((11 : Nat) : Int))), (1, (2, ((2 : Nat) : Int))), (2, (0, a2))]) (st1 := [(0, a2), (2, ((3 : Nat) : Int))]) (h1 := h) rfl ?_
    obtain ⟨hg, hv⟩ := jgd_some hv
    refine jT.iald (a := 3) (st_Mt_addPiece) rfl rfl (by decide) hg.1 hg.2 ?_
    obtain ⟨v1, hq, hv⟩ := Option.bind_eq_some_iff.mp hv
    refine jT.cSN (M1 := M_X_kindOf) [(0, h 3 a2.toNat)] [] (st_Mt_addPiece) rfl rfl ok_X_kindOf rfl (Nat.le_of_ble_eq_true rfl) (Nat.le_of_ble_eq_true rfl) rfl (Nat.le_of_ble_eq_true rfl) (C_X_kindOf hq) ?_
    show jG E _ 9 [(0, (2, ((11 : Nat) : Int))), (1, (2, ((2 : Nat) : Int))), (2, (0, a2))] [(0, v1)] h _ _
    refine jG.blk (st_Mt_addPiece) 3 (pc1 := 12) (L1 := [(3, (0, v1)), (0, (2, ((11 : Nat) : Int))), (1, (2, ((2 : Nat) : Int))), (2, (0, a2))]) (st1 := [(0, 1), (0, v1)]) (h1 := h) rfl ?_
    refine jT.if2 (st_Mt_addPiece) rfl (tgt := 30) (by decide) (fun hc => ?_) (fun hc => ?_)
    · have hc : ¬ (v1 = 1) := hc
      try rw [if_neg hc] at hv
      refine jG.blk (st_Mt_addPiece) 2 (pc1 := 32) (L1 := [(3, (0, v1)), (0, (2, ((11 : Nat) : Int))), (1, (2, ((2 : Nat) : Int))), (2, (0, a2))]) (st1 := [(0, 2), (0, v1)]) (h1 := h) rfl ?_
      refine jT.if2 (st_Mt_addPiece) rfl (tgt := 44) (by decide) (fun hc => ?_) (fun hc => ?_)
      · have hc : ¬ (v1 = 2) := hc
        try rw [if_neg hc] at hv
        refine jG.blk (st_Mt_addPiece) 2 (pc1 := 47) (L1 := [(4, (0, 0)), (3, (0, v1)), (0, (2, ((11 : Nat) : Int))), (1, (2, ((2 : Nat) : Int))), (2, (0, a2))]) (st1 := []) (h1 := h) rfl ?_
        refine jG.subp [2, 3, 4, 1, 0] (L1 := [(0, (2, ((11 : Nat) : Int))), (1, (2, ((2 : Nat) : Int))), (2, (0, a2)), (3, (0, v1)), (4, (0, 0))]) rfl ?_
        refine f_Mt_addPiece_lp47_ok E 11 (by decide) (fun l8 h9 res hv => ?_) 1000 _ _ _ hv
        · cases hv
          exact jT.vret (st_Mt_addPiece) rfl trivial
      · have hc : v1 = 2 := Decidable.not_not.mp hc
        try rw [if_pos hc] at hv
        refine jG.blk (st_Mt_addPiece) 3 (pc1 := 38) (L1 := [(3, (0, v1)), (0, (2, ((11 : Nat) : Int))), (1, (2, ((2 : Nat) : Int))), (2, (0, a2))]) (st1 := [(0, a2), (2, ((2 : Nat) : Int)), (2, ((11 : Nat) : Int))]) (h1 := h) rfl ?_
        obtain ⟨v10, hq, hv⟩ := Option.bind_eq_some_iff.mp hv
        refine jT.cV (M1 := M_Mt_addLeaps) (2, ((11 : Nat) : Int)) [(2, ((2 : Nat) : Int)), (0, a2)] [] (st_Mt_addPiece) rfl rfl ok_Mt_addLeaps rfl (Or.inl ⟨rfl, _, _, _, rfl, rfl⟩) (Nat.le_of_ble_eq_true rfl) (Nat.le_of_ble_eq_true rfl) rfl (Nat.le_of_ble_eq_true rfl) (C_Mt_addLeaps (by decide) hq) ?_
        show jG E _ 41 [(3, (0, v1)), (0, (2, ((11 : Nat) : Int))), (1, (2, ((2 : Nat) : Int))), (2, (0, a2))] [] v10 _ _
        refine jT.goto (st_Mt_addPiece) rfl (tgt := 74) (by decide) ?_
        cases hv
        exact jT.vret (st_Mt_addPiece) rfl trivial
    · have hc : v1 = 1 := Decidable.not_not.mp hc
      try rw [if_pos hc] at hv
      refine jG.blk (st_Mt_addPiece) 3 (pc1 := 18) (L1 := [(3, (0, v1)), (0, (2, ((11 : Nat) : Int))), (1, (2, ((2 : Nat) : Int))), (2, (0, a2))]) (st1 := [(0, a2), (2, ((2 : Nat) : Int)), (2, ((11 : Nat) : Int))]) (h1 := h) rfl ?_
      obtain ⟨v11, hq, hv⟩ := Option.bind_eq_some_iff.mp hv
      refine jT.cV (M1 := M_Mt_addSteps) (2, ((11 : Nat) : Int)) [(2, ((2 : Nat) : Int)), (0, a2)] [] (st_Mt_addPiece) rfl rfl ok_Mt_addSteps rfl (Or.inl ⟨rfl, _, _, _, rfl, rfl⟩) (Nat.le_of_ble_eq_true rfl) (Nat.le_of_ble_eq_true rfl) rfl (Nat.le_of_ble_eq_true rfl) (C_Mt_addSteps (by decide) hq) ?_
      show jG E _ 21 [(3, (0, v1)), (0, (2, ((11 : Nat) : Int))), (1, (2, ((2 : Nat) : Int))), (2, (0, a2))] [] v11 _ _
      refine jG.blk (st_Mt_addPiece) 3 (pc1 := 24) (L1 := [(3, (0, v1)), (0, (2, ((11 : Nat) : Int))), (1, (2, ((2 : Nat) : Int))), (2, (0, a2))]) (st1 := [(0, a2), (2, ((2 : Nat) : Int)), (2, ((11 : Nat) : Int))]) (h1 := v11) rfl ?_
      obtain ⟨v12, hq, hv⟩ := Option.bind_eq_some_iff.mp hv
      refine jT.cV (M1 := M_Mt_addTakes) (2, ((11 : Nat) : Int)) [(2, ((2 : Nat) : Int)), (0, a2)] [] (st_Mt_addPiece) rfl rfl ok_Mt_addTakes rfl (Or.inl ⟨rfl, _, _, _, rfl, rfl⟩) (Nat.le_of_ble_eq_true rfl) (Nat.le_of_ble_eq_true rfl) rfl (Nat.le_of_ble_eq_true rfl) (C_Mt_addTakes (by decide) hq) ?_
      show jG E _ 27 [(3, (0, v1)), (0, (2, ((11 : Nat) : Int))), (1, (2, ((2 : Nat) : Int))), (2, (0, a2))] [] v12 _ _
      refine jT.goto (st_Mt_addPiece) rfl (tgt := 74) (by decide) ?_
      cases hv
      exact jT.vret (st_Mt_addPiece) rfl trivial
  · refine jC.of ok_Mt_addPiece.1 (by rw [jlg]; exact Nat.le_of_ble_eq_true rfl) ?_
    show jG E _ 0 [(0, (2, ((14 : Nat) : Int))), (1, (2, ((2 : Nat) : Int))), (2, (0, a2))] [] h _ _
    unfold f_Mt_addPiece at hv
    refine jG.blk (st_Mt_addPiece) 3 (pc1 := 5) (L1 := [(0, (2, ((14 : Nat) : Int))), (1, (2, ((2 : Nat) : Int))), (2, (0, a2))]) (st1 := [(0, a2), (2, ((3 : Nat) : Int))]) (h1 := h) rfl ?_
    obtain ⟨hg, hv⟩ := jgd_some hv
    refine jT.iald (a := 3) (st_Mt_addPiece) rfl rfl (by decide) hg.1 hg.2 ?_
    obtain ⟨v1, hq, hv⟩ := Option.bind_eq_some_iff.mp hv
    refine jT.cSN (M1 := M_X_kindOf) [(0, h 3 a2.toNat)] [] (st_Mt_addPiece) rfl rfl ok_X_kindOf rfl (Nat.le_of_ble_eq_true rfl) (Nat.le_of_ble_eq_true rfl) rfl (Nat.le_of_ble_eq_true rfl) (C_X_kindOf hq) ?_
    show jG E _ 9 [(0, (2, ((14 : Nat) : Int))), (1, (2, ((2 : Nat) : Int))), (2, (0, a2))] [(0, v1)] h _ _
    refine jG.blk (st_Mt_addPiece) 3 (pc1 := 12) (L1 := [(3, (0, v1)), (0, (2, ((14 : Nat) : Int))), (1, (2, ((2 : Nat) : Int))), (2, (0, a2))]) (st1 := [(0, 1), (0, v1)]) (h1 := h) rfl ?_
    refine jT.if2 (st_Mt_addPiece) rfl (tgt := 30) (by decide) (fun hc => ?_) (fun hc => ?_)
    · have hc : ¬ (v1 = 1) := hc
      try rw [if_neg hc] at hv
      refine jG.blk (st_Mt_addPiece) 2 (pc1 := 32) (L1 := [(3, (0, v1)), (0, (2, ((14 : Nat) : Int))), (1, (2, ((2 : Nat) : Int))), (2, (0, a2))]) (st1 := [(0, 2), (0, v1)]) (h1 := h) rfl ?_
      refine jT.if2 (st_Mt_addPiece) rfl (tgt := 44) (by decide) (fun hc => ?_) (fun hc => ?_)
      · have hc : ¬ (v1 = 2) := hc
        try rw [if_neg hc] at hv
        refine jG.blk (st_Mt_addPiece) 2 (pc1 := 47) (L1 := [(4, (0, 0)), (3, (0, v1)), (0, (2, ((14 : Nat) : Int))), (1, (2, ((2 : Nat) : Int))), (2, (0, a2))]) (st1 := []) (h1 := h) rfl ?_
        refine jG.subp [2, 3, 4, 1, 0] (L1 := [(0, (2, ((14 : Nat) : Int))), (1, (2, ((2 : Nat) : Int))), (2, (0, a2)), (3, (0, v1)), (4, (0, 0))]) rfl ?_
        refine f_Mt_addPiece_lp47_ok E 14 (by decide) (fun l8 h9 res hv => ?_) 1000 _ _ _ hv
        · cases hv
          exact jT.vret (st_Mt_addPiece) rfl trivial
      · have hc : v1 = 2 := Decidable.not_not.mp hc
        try rw [if_pos hc] at hv
        refine jG.blk (st_Mt_addPiece) 3 (pc1 := 38) (L1 := [(3, (0, v1)), (0, (2, ((14 : Nat) : Int))), (1, (2, ((2 : Nat) : Int))), (2, (0, a2))]) (st1 := [(0, a2), (2, ((2 : Nat) : Int)), (2, ((14 : Nat) : Int))]) (h1 := h) rfl ?_
        obtain ⟨v10, hq, hv⟩ := Option.bind_eq_some_iff.mp hv
        refine jT.cV (M1 := M_Mt_addLeaps) (2, ((14 : Nat) : Int)) [(2, ((2 : Nat) : Int)), (0, a2)] [] (st_Mt_addPiece) rfl rfl ok_Mt_addLeaps rfl (Or.inl ⟨rfl, _, _, _, rfl, rfl⟩) (Nat.le_of_ble_eq_true rfl) (Nat.le_of_ble_eq_true rfl) rfl (Nat.le_of_ble_eq_true rfl) (C_Mt_addLeaps (by decide) hq) ?_
        show jG E _ 41 [(3, (0, v1)), (0, (2, ((14 : Nat) : Int))), (1, (2, ((2 : Nat) : Int))), (2, (0, a2))] [] v10 _ _
        refine jT.goto (st_Mt_addPiece) rfl (tgt := 74) (by decide) ?_
        cases hv
        exact jT.vret (st_Mt_addPiece) rfl trivial
    · have hc : v1 = 1 := Decidable.not_not.mp hc
      try rw [if_pos hc] at hv
      refine jG.blk (st_Mt_addPiece) 3 (pc1 := 18) (L1 := [(3, (0, v1)), (0, (2, ((14 : Nat) : Int))), (1, (2, ((2 : Nat) : Int))), (2, (0, a2))]) (st1 := [(0, a2), (2, ((2 : Nat) : Int)), (2, ((14 : Nat) : Int))]) (h1 := h) rfl ?_
      obtain ⟨v11, hq, hv⟩ := Option.bind_eq_some_iff.mp hv
      refine jT.cV (M1 := M_Mt_addSteps) (2, ((14 : Nat) : Int)) [(2, ((2 : Nat) : Int)), (0, a2)] [] (st_Mt_addPiece) rfl rfl ok_Mt_addSteps rfl (Or.inl ⟨rfl, _, _, _, rfl, rfl⟩) (Nat.le_of_ble_eq_true rfl) (Nat.le_of_ble_eq_true rfl) rfl (Nat.le_of_ble_eq_true rfl) (C_Mt_addSteps (by decide) hq) ?_
      show jG E _ 21 [(3, (0, v1)), (0, (2, ((14 : Nat) : Int))), (1, (2, ((2 : Nat) : Int))), (2, (0, a2))] [] v11 _ _
      refine jG.blk (st_Mt_addPiece) 3 (pc1 := 24) (L1 := [(3, (0, v1)), (0, (2, ((14 : Nat) : Int))), (1, (2, ((2 : Nat) : Int))), (2, (0, a2))]) (st1 := [(0, a2), (2, ((2 : Nat) : Int)), (2, ((14 : Nat) : Int))]) (h1 := v11) rfl ?_
      obtain ⟨v12, hq, hv⟩ := Option.bind_eq_some_iff.mp hv
      refine jT.cV (M1 := M_Mt_addTakes) (2, ((14 : Nat) : Int)) [(2, ((2 : Nat) : Int)), (0, a2)] [] (st_Mt_addPiece) rfl rfl ok_Mt_addTakes rfl (Or.inl ⟨rfl, _, _, _, rfl, rfl⟩) (Nat.le_of_ble_eq_true rfl) (Nat.le_of_ble_eq_true rfl) rfl (Nat.le_of_ble_eq_true rfl) (C_Mt_addTakes (by decide) hq) ?_
      show jG E _ 27 [(3, (0, v1)), (0, (2, ((14 : Nat) : Int))), (1, (2, ((2 : Nat) : Int))), (2, (0, a2))] [] v12 _ _
      refine jT.goto (st_Mt_addPiece) rfl (tgt := 74) (by decide) ?_
      cases hv
      exact jT.vret (st_Mt_addPiece) rfl trivial
def f_Mt_addCastling_j30 (t : Nat) (h4 : jH) (l3 : Int) : Option (jH) := (f_Bd_mayCastle h4 1).bind fun v5 => if v5 = 0 then some h4 else jgd (0 ≤ jsub l3 2 ∧ jsub l3 2 < 64) (jgd (0 ≤ jsub l3 2 ∧ jsub l3 2 < 64) (some (jup h4 (t + 1) (jsub l3 2).toNat (jlor (h4 (t + 1) (jsub l3 2).toNat) (jlshl 1 l3)))))
def f_Mt_addCastling (t : Nat) (h : jH) : Option (jH) := (f_X_kingHome h (h 2 1)).bind fun v1 => (f_Bd_mayCastle h 0).bind fun v2 => if v2 = 0 then f_Mt_addCastling_j30 t h v1 else jgd (0 ≤ jadd v1 2 ∧ jadd v1 2 < 64) (jgd (0 ≤ jadd v1 2 ∧ jadd v1 2 < 64) (f_Mt_addCastling_j30 t (jup h (t + 1) (jadd v1 2).toNat (jlor (h (t + 1) (jadd v1 2).toNat) (jlshl 1 v1))) v1))
set_option maxRecDepth 100000 in
set_option maxHeartbeats 4000000 in
theorem f_Mt_addCastling_j30_ok (E : jE) (t : Nat) (hr : t = 11 ∨ t = 14) {h4 : jH} {l3 : Int} {res : jH} (hv : f_Mt_addCastling_j30 t h4 l3 = some res) : jG E M_Mt_addCastling 30 [(0, (2, ((t : Nat) : Int))), (1, (2, ((2 : Nat) : Int))), (2, (0, l3))] [] h4 none res := by
  rcases hr with rfl | rfl
  · unfold f_Mt_addCastling_j30 at hv
    refine jG.blk (st_Mt_addCastling) 2 (pc1 := 32) (L1 := [(0, (2, ((11 : Nat) : Int))), (1, (2, ((2 : Nat) : Int))), (2, (0, l3))]) (st1 := [(0, 1), (2, ((2 : Nat) : Int))]) (h1 := h4) rfl ?_
    obtain ⟨v5, hq, hv⟩ := Option.bind_eq_some_iff.mp hv
    refine jT.cV (M1 := M_Bd_mayCastle) (2, ((2 : Nat) : Int)) [(0, 1)] [] (st_Mt_addCastling) rfl rfl ok_Bd_mayCastle rfl (Or.inl ⟨rfl, _, _, _, rfl, rfl⟩) (Nat.le_of_ble_eq_true rfl) (Nat.le_of_ble_eq_true rfl) rfl (Nat.le_of_ble_eq_true rfl) (C_Bd_mayCastle hq) ?_
    show jG E _ 35 [(0, (2, ((11 : Nat) : Int))), (1, (2, ((2 : Nat) : Int))), (2, (0, l3))] [(0, v5)] h4 _ _
    refine jT.if1 (st_Mt_addCastling) rfl (tgt := 52) (by decide) (fun hc => ?_) (fun hc => ?_)
    · have hc : v5 = 0 := hc
      try rw [if_pos hc] at hv
      cases hv
      exact jT.vret (st_Mt_addCastling) rfl trivial
    · have hc : ¬ (v5 = 0) := hc
      try rw [if_neg hc] at hv
      refine jG.blk (st_Mt_addCastling) 6 (pc1 := 46) (L1 := [(0, (2, ((11 : Nat) : Int))), (1, (2, ((2 : Nat) : Int))), (2, (0, l3))]) (st1 := [(0, jsub l3 2), (2, ((11 + 1 : Nat) : Int)), (0, jsub l3 2), (2, ((11 + 1 : Nat) : Int))]) (h1 := h4) rfl ?_
      obtain ⟨hg, hv⟩ := jgd_some hv
      refine jT.lald (a := 11 + 1) (st_Mt_addCastling) rfl rfl (by decide) hg.1 hg.2 ?_
      refine jG.blk (st_Mt_addCastling) 4 (pc1 := 51) (L1 := [(0, (2, ((11 : Nat) : Int))), (1, (2, ((2 : Nat) : Int))), (2, (0, l3))]) (st1 := [(1, jlor (h4 (11 + 1) (jsub l3 2).toNat) (jlshl 1 l3)), (0, jsub l3 2), (2, ((11 + 1 : Nat) : Int))]) (h1 := h4) rfl ?_
      obtain ⟨hg, hv⟩ := jgd_some hv
      refine jT.last (a := 11 + 1) (st_Mt_addCastling) rfl rfl (by decide) hg.1 hg.2 ?_
      cases hv
      exact jT.vret (st_Mt_addCastling) rfl trivial
  · unfold f_Mt_addCastling_j30 at hv
    refine jG.blk (st_Mt_addCastling) 2 (pc1 := 32) (L1 := [(0, (2, ((14 : Nat) : Int))), (1, (2, ((2 : Nat) : Int))), (2, (0, l3))]) (st1 := [(0, 1), (2, ((2 : Nat) : Int))]) (h1 := h4) rfl ?_
    obtain ⟨v5, hq, hv⟩ := Option.bind_eq_some_iff.mp hv
    refine jT.cV (M1 := M_Bd_mayCastle) (2, ((2 : Nat) : Int)) [(0, 1)] [] (st_Mt_addCastling) rfl rfl ok_Bd_mayCastle rfl (Or.inl ⟨rfl, _, _, _, rfl, rfl⟩) (Nat.le_of_ble_eq_true rfl) (Nat.le_of_ble_eq_true rfl) rfl (Nat.le_of_ble_eq_true rfl) (C_Bd_mayCastle hq) ?_
    show jG E _ 35 [(0, (2, ((14 : Nat) : Int))), (1, (2, ((2 : Nat) : Int))), (2, (0, l3))] [(0, v5)] h4 _ _
    refine jT.if1 (st_Mt_addCastling) rfl (tgt := 52) (by decide) (fun hc => ?_) (fun hc => ?_)
    · have hc : v5 = 0 := hc
      try rw [if_pos hc] at hv
      cases hv
      exact jT.vret (st_Mt_addCastling) rfl trivial
    · have hc : ¬ (v5 = 0) := hc
      try rw [if_neg hc] at hv
      refine jG.blk (st_Mt_addCastling) 6 (pc1 := 46) (L1 := [(0, (2, ((14 : Nat) : Int))), (1, (2, ((2 : Nat) : Int))), (2, (0, l3))]) (st1 := [(0, jsub l3 2), (2, ((14 + 1 : Nat) : Int)), (0, jsub l3 2), (2, ((14 + 1 : Nat) : Int))]) (h1 := h4) rfl ?_
      obtain ⟨hg, hv⟩ := jgd_some hv
      refine jT.lald (a := 14 + 1) (st_Mt_addCastling) rfl rfl (by decide) hg.1 hg.2 ?_
      refine jG.blk (st_Mt_addCastling) 4 (pc1 := 51) (L1 := [(0, (2, ((14 : Nat) : Int))), (1, (2, ((2 : Nat) : Int))), (2, (0, l3))]) (st1 := [(1, jlor (h4 (14 + 1) (jsub l3 2).toNat) (jlshl 1 l3)), (0, jsub l3 2), (2, ((14 + 1 : Nat) : Int))]) (h1 := h4) rfl ?_
      obtain ⟨hg, hv⟩ := jgd_some hv
      refine jT.last (a := 14 + 1) (st_Mt_addCastling) rfl rfl (by decide) hg.1 hg.2 ?_
      cases hv
      exact jT.vret (st_Mt_addCastling) rfl trivial
set_option maxRecDepth 100000 in
set_option maxHeartbeats 4000000 in
theorem C_Mt_addCastling {E : jE} {t : Nat} (hr : t = 11 ∨ t = 14) {h : jH} {res : jH} (hv : f_Mt_addCastling t h = some res) : jC E M_Mt_addCastling [(2, ((t : Nat) : Int)), (2, ((2 : Nat) : Int))] h none res := by
  rcases hr with rfl | rfl
  · refine jC.of ok_Mt_addCastling.1 (by rw [jlg]; exact Nat.le_of_ble_eq_true rfl) ?_
    show jG E _ 0 [(0, (2, ((11 : Nat) : Int))), (1, (2, ((2 : Nat) : Int)))] [] h _ _
    unfold f_Mt_addCastling at hv
    refine jG.blk (st_Mt_addCastling) 2 (pc1 := 4) (L1 := [(0, (2, ((11 : Nat) : Int))), (1, (2, ((2 : Nat) : Int)))]) (st1 := [(0, h 2 1)]) (h1 := h) rfl ?_
    obtain ⟨v1, hq, hv⟩ := Option.bind_eq_some_iff.mp hv
    refine jT.cSN (M1 := M_X_kingHome) [(0, h 2 1)] [] (st_Mt_addCastling) rfl rfl ok_X_kingHome rfl (Nat.le_of_ble_eq_true rfl) (Nat.le_of_ble_eq_true rfl) rfl (Nat.le_of_ble_eq_true rfl) (C_X_kingHome hq) ?_
    show jG E _ 7 [(0, (2, ((11 : Nat) : Int))), (1, (2, ((2 : Nat) : Int)))] [(0, v1)] h _ _
    refine jG.blk (st_Mt_addCastling) 3 (pc1 := 10) (L1 := [(2, (0, v1)), (0, (2, ((11 : Nat) : Int))), (1, (2, ((2 : Nat) : Int)))]) (st1 := [(0, 0), (2, ((2 : Nat) : Int))]) (h1 := h) rfl ?_
    obtain ⟨v2, hq, hv⟩ := Option.bind_eq_some_iff.mp hv
    refine jT.cV (M1 := M_Bd_mayCastle) (2, ((2 : Nat) : Int)) [(0, 0)] [] (st_Mt_addCastling) rfl rfl ok_Bd_mayCastle rfl (Or.inl ⟨rfl, _, _, _, rfl, rfl⟩) (Nat.le_of_ble_eq_true rfl) (Nat.le_of_ble_eq_true rfl) rfl (Nat.le_of_ble_eq_true rfl) (C_Bd_mayCastle hq) ?_
    show jG E _ 13 [(2, (0, v1)), (0, (2, ((11 : Nat) : Int))), (1, (2, ((2 : Nat) : Int)))] [(0, v2)] h _ _
    refine jT.if1 (st_Mt_addCastling) rfl (tgt := 30) (by decide) (fun hc => ?_) (fun hc => ?_)
    · have hc : v2 = 0 := hc
      try rw [if_pos hc] at hv
      refine jG.subp [1, 2, 0] (L1 := [(0, (2, ((11 : Nat) : Int))), (1, (2, ((2 : Nat) : Int))), (2, (0, v1))]) rfl ?_
      exact f_Mt_addCastling_j30_ok E 11 (by decide) hv
    · have hc : ¬ (v2 = 0) := hc
      try rw [if_neg hc] at hv
      refine jG.blk (st_Mt_addCastling) 6 (pc1 := 24) (L1 := [(2, (0, v1)), (0, (2, ((11 : Nat) : Int))), (1, (2, ((2 : Nat) : Int)))]) (st1 := [(0, jadd v1 2), (2, ((11 + 1 : Nat) : Int)), (0, jadd v1 2), (2, ((11 + 1 : Nat) : Int))]) (h1 := h) rfl ?_
      obtain ⟨hg, hv⟩ := jgd_some hv
      refine jT.lald (a := 11 + 1) (st_Mt_addCastling) rfl rfl (by decide) hg.1 hg.2 ?_
      refine jG.blk (st_Mt_addCastling) 4 (pc1 := 29) (L1 := [(2, (0, v1)), (0, (2, ((11 : Nat) : Int))), (1, (2, ((2 : Nat) : Int)))]) (st1 := [(1, jlor (h (11 + 1) (jadd v1 2).toNat) (jlshl 1 v1)), (0, jadd v1 2), (2, ((11 + 1 : Nat) : Int))]) (h1 := h) rfl ?_
      obtain ⟨hg, hv⟩ := jgd_some hv
      refine jT.last (a := 11 + 1) (st_Mt_addCastling) rfl rfl (by decide) hg.1 hg.2 ?_
      refine jG.subp [1, 2, 0] (L1 := [(0, (2, ((11 : Nat) : Int))), (1, (2, ((2 : Nat) : Int))), (2, (0, v1))]) rfl ?_
      exact f_Mt_addCastling_j30_ok E 11 (by decide) hv
  · refine jC.of ok_Mt_addCastling.1 (by rw [jlg]; exact Nat.le_of_ble_eq_true rfl) ?_
    show jG E _ 0 [(0, (2, ((14 : Nat) : Int))), (1, (2, ((2 : Nat) : Int)))] [] h _ _
    unfold f_Mt_addCastling at hv
    refine jG.blk (st_Mt_addCastling) 2 (pc1 := 4) (L1 := [(0, (2, ((14 : Nat) : Int))), (1, (2, ((2 : Nat) : Int)))]) (st1 := [(0, h 2 1)]) (h1 := h) rfl ?_
    obtain ⟨v1, hq, hv⟩ := Option.bind_eq_some_iff.mp hv
    refine jT.cSN (M1 := M_X_kingHome) [(0, h 2 1)] [] (st_Mt_addCastling) rfl rfl ok_X_kingHome rfl (Nat.le_of_ble_eq_true rfl) (Nat.le_of_ble_eq_true rfl) rfl (Nat.le_of_ble_eq_true rfl) (C_X_kingHome hq) ?_
    show jG E _ 7 [(0, (2, ((14 : Nat) : Int))), (1, (2, ((2 : Nat) : Int)))] [(0, v1)] h _ _
    refine jG.blk (st_Mt_addCastling) 3 (pc1 := 10) (L1 := [(2, (0, v1)), (0, (2, ((14 : Nat) : Int))), (1, (2, ((2 : Nat) : Int)))]) (st1 := [(0, 0), (2, ((2 : Nat) : Int))]) (h1 := h) rfl ?_
    obtain ⟨v2, hq, hv⟩ := Option.bind_eq_some_iff.mp hv
    refine jT.cV (M1 := M_Bd_mayCastle) (2, ((2 : Nat) : Int)) [(0, 0)] [] (st_Mt_addCastling) rfl rfl ok_Bd_mayCastle rfl (Or.inl ⟨rfl, _, _, _, rfl, rfl⟩) (Nat.le_of_ble_eq_true rfl) (Nat.le_of_ble_eq_true rfl) rfl (Nat.le_of_ble_eq_true rfl) (C_Bd_mayCastle hq) ?_
    show jG E _ 13 [(2, (0, v1)), (0, (2, ((14 : Nat) : Int))), (1, (2, ((2 : Nat) : Int)))] [(0, v2)] h _ _
    refine jT.if1 (st_Mt_addCastling) rfl (tgt := 30) (by decide) (fun hc => ?_) (fun hc => ?_)
    · have hc : v2 = 0 := hc
      try rw [if_pos hc] at hv
      refine jG.subp [1, 2, 0] (L1 := [(0, (2, ((14 : Nat) : Int))), (1, (2, ((2 : Nat) : Int))), (2, (0, v1))]) rfl ?_
      exact f_Mt_addCastling_j30_ok E 14 (by decide) hv
    · have hc : ¬ (v2 = 0) := hc
      try rw [if_neg hc] at hv
      refine jG.blk (st_Mt_addCastling) 6 (pc1 := 24) (L1 := [(2, (0, v1)), (0, (2, ((14 : Nat) : Int))), (1, (2, ((2 : Nat) : Int)))]) (st1 := [(0, jadd v1 2), (2, ((14 + 1 : Nat) : Int)), (0, jadd v1 2), (2, ((14 + 1 : Nat) : Int))]) (h1 := h) rfl ?_
      obtain ⟨hg, hv⟩ := jgd_some hv
      refine jT.lald (a := 14 + 1) (st_Mt_addCastling) rfl rfl (by decide) hg.1 hg.2 ?_
      refine jG.blk (st_Mt_addCastling) 4 (pc1 := 29) (L1 := [(2, (0, v1)), (0, (2, ((14 : Nat) : Int))), (1, (2, ((2 : Nat) : Int)))]) (st1 := [(1, jlor (h (14 + 1) (jadd v1 2).toNat) (jlshl 1 v1)), (0, jadd v1 2), (2, ((14 + 1 : Nat) : Int))]) (h1 := h) rfl ?_
      obtain ⟨hg, hv⟩ := jgd_some hv
      refine jT.last (a := 14 + 1) (st_Mt_addCastling) rfl rfl (by decide) hg.1 hg.2 ?_
      refine jG.subp [1, 2, 0] (L1 := [(0, (2, ((14 : Nat) : Int))), (1, (2, ((2 : Nat) : Int))), (2, (0, v1))]) rfl ?_
      exact f_Mt_addCastling_j30_ok E 14 (by decide) hv
def f_Mt_legalOf_lp12 (x5 : Int) (x6 : Int) (k : Int → Int → Int → jH → Option (Int × jH)) : Nat → Int → Int → Int → jH → Option (Int × jH)
  | 0, _, _, _, _ => none
  | n + 1, l2, l3, l4, h7 => if l4 ≤ 0 then k l2 l3 l4 h7 else (f_Jl_numberOfTrailingZeros h7 l3).bind fun v8 => (f_Bd_isSafeBehind h7 v8 x5 x6).bind fun v9 => f_Mt_legalOf_lp12 x5 x6 k n (if v9.1 = 0 then l2 else jlor l2 (jlshl 1 v8)) (jland l3 (jlsub l3 1)) (jadd l4 (-1)) v9.2
def f_Mt_legalOf (h : jH) (a1 : Int) (a2 : Int) (a3 : Int) : Option (Int × jH) := (f_Jl_bitCount h a1).bind fun v1 => f_Mt_legalOf_lp12 a2 a3 (fun l10 l11 l12 h13 => some (l10, h13)) 1000 0 a1 v1 h
set_option maxRecDepth 100000 in
set_option maxHeartbeats 4000000 in
theorem f_Mt_legalOf_lp12_ok (E : jE) {x5 : Int} {x6 : Int} {k : Int → Int → Int → jH → Option (Int × jH)} (hk : ∀ (l2 : Int) (l3 : Int) (l4 : Int) (h7 : jH) (res : Int × jH), k l2 l3 l4 h7 = some res → jG E M_Mt_legalOf 60 [(5, (1, l2))] [] h7 (some (1, res.1)) res.2) : ∀ (n : Nat) (l2 : Int) (l3 : Int) (l4 : Int) (h7 : jH) (res : Int × jH), f_Mt_legalOf_lp12 x5 x6 k n l2 l3 l4 h7 = some res → jG E M_Mt_legalOf 12 [(0, (2, ((2 : Nat) : Int))), (3, (0, x5)), (4, (0, x6)), (5, (1, l2)), (7, (1, l3)), (9, (0, l4))] [] h7 (some (1, res.1)) res.2 := by
  intro n
  induction n with
  | zero => intro l2 l3 l4 h7 res hv; cases hv
  | succ n ih =>
    intro l2 l3 l4 h7 res hv
    rw [f_Mt_legalOf_lp12] at hv
    refine jG.blk (st_Mt_legalOf) 1 (pc1 := 14) (L1 := [(0, (2, ((2 : Nat) : Int))), (3, (0, x5)), (4, (0, x6)), (5, (1, l2)), (7, (1, l3)), (9, (0, l4))]) (st1 := [(0, l4)]) (h1 := h7) rfl ?_
    refine jT.if1 (st_Mt_legalOf) rfl (tgt := 60) (by decide) (fun hc => ?_) (fun hc => ?_)
    · have hc : l4 ≤ 0 := hc
      try rw [if_pos hc] at hv
      refine jG.subp [3] (L1 := [(5, (1, l2))]) rfl ?_
      exact hk _ _ _ _ _ hv
    · have hc : ¬ (l4 ≤ 0) := hc
      try rw [if_neg hc] at hv
      refine jG.blk (st_Mt_legalOf) 1 (pc1 := 19) (L1 := [(0, (2, ((2 : Nat) : Int))), (3, (0, x5)), (4, (0, x6)), (5, (1, l2)), (7, (1, l3)), (9, (0, l4))]) (st1 := [(1, l3)]) (h1 := h7) rfl ?_
      obtain ⟨v8, hq, hv⟩ := Option.bind_eq_some_iff.mp hv
      refine jT.cS (M1 := M_Jl_numberOfTrailingZeros) [(1, l3)] [] (st_Mt_legalOf) rfl rfl ok_Jl_numberOfTrailingZeros rfl (Nat.le_of_ble_eq_true rfl) (Nat.le_of_ble_eq_true rfl) rfl (Nat.le_of_ble_eq_true rfl) (C_Jl_numberOfTrailingZeros hq) ?_
      show jG E _ 22 [(0, (2, ((2 : Nat) : Int))), (3, (0, x5)), (4, (0, x6)), (5, (1, l2)), (7, (1, l3)), (9, (0, l4))] [(0, v8)] h7 _ _
      refine jG.blk (st_Mt_legalOf) 11 (pc1 := 39) (L1 := [(7, (1, jland l3 (jlsub l3 1))), (10, (0, v8)), (0, (2, ((2 : Nat) : Int))), (3, (0, x5)), (4, (0, x6)), (5, (1, l2)), (9, (0, l4))]) (st1 := [(0, x6), (0, x5), (0, v8), (2, ((2 : Nat) : Int))]) (h1 := h7) rfl ?_
      obtain ⟨v9, hq, hv⟩ := Option.bind_eq_some_iff.mp hv
      refine jT.cV (M1 := M_Bd_isSafeBehind) (2, ((2 : Nat) : Int)) [(0, v8), (0, x5), (0, x6)] [] (st_Mt_legalOf) rfl rfl ok_Bd_isSafeBehind rfl (Or.inl ⟨rfl, _, _, _, rfl, rfl⟩) (Nat.le_of_ble_eq_true rfl) (Nat.le_of_ble_eq_true rfl) rfl (Nat.le_of_ble_eq_true rfl) (C_Bd_isSafeBehind hq) ?_
      show jG E _ 42 [(7, (1, jland l3 (jlsub l3 1))), (10, (0, v8)), (0, (2, ((2 : Nat) : Int))), (3, (0, x5)), (4, (0, x6)), (5, (1, l2)), (9, (0, l4))] [(0, v9.1)] v9.2 _ _
      refine jT.if1 (st_Mt_legalOf) rfl (tgt := 54) (by decide) (fun hc => ?_) (fun hc => ?_)
      · have hc : v9.1 = 0 := hc
        try rw [if_pos hc] at hv
        refine jG.blk (st_Mt_legalOf) 1 (pc1 := 57) (L1 := [(9, (0, jadd l4 (-1))), (7, (1, jland l3 (jlsub l3 1))), (10, (0, v8)), (0, (2, ((2 : Nat) : Int))), (3, (0, x5)), (4, (0, x6)), (5, (1, l2))]) (st1 := []) (h1 := v9.2) rfl ?_
        refine jT.goto (st_Mt_legalOf) rfl (tgt := 12) (by decide) ?_
        refine jG.subp [3, 4, 5, 6, 1, 0] (L1 := [(0, (2, ((2 : Nat) : Int))), (3, (0, x5)), (4, (0, x6)), (5, (1, l2)), (7, (1, jland l3 (jlsub l3 1))), (9, (0, jadd l4 (-1)))]) rfl ?_
        exact ih _ _ _ _ _ hv
      · have hc : ¬ (v9.1 = 0) := hc
        try rw [if_neg hc] at hv
        refine jG.blk (st_Mt_legalOf) 7 (pc1 := 57) (L1 := [(9, (0, jadd l4 (-1))), (5, (1, jlor l2 (jlshl 1 v8))), (7, (1, jland l3 (jlsub l3 1))), (10, (0, v8)), (0, (2, ((2 : Nat) : Int))), (3, (0, x5)), (4, (0, x6))]) (st1 := []) (h1 := v9.2) rfl ?_
        refine jT.goto (st_Mt_legalOf) rfl (tgt := 12) (by decide) ?_
        refine jG.subp [4, 5, 6, 1, 2, 0] (L1 := [(0, (2, ((2 : Nat) : Int))), (3, (0, x5)), (4, (0, x6)), (5, (1, jlor l2 (jlshl 1 v8))), (7, (1, jland l3 (jlsub l3 1))), (9, (0, jadd l4 (-1)))]) rfl ?_
        exact ih _ _ _ _ _ hv
set_option maxRecDepth 100000 in
set_option maxHeartbeats 4000000 in
theorem C_Mt_legalOf {E : jE} {h : jH} {a1 : Int} {a2 : Int} {a3 : Int} {res : Int × jH} (hv : f_Mt_legalOf h a1 a2 a3 = some res) : jC E M_Mt_legalOf [(2, ((2 : Nat) : Int)), (1, a1), (0, a2), (0, a3)] h (some (1, res.1)) res.2 := by
  refine jC.of ok_Mt_legalOf.1 (by rw [jlg]; exact Nat.le_of_ble_eq_true rfl) ?_
  show jG E _ 0 [(0, (2, ((2 : Nat) : Int))), (1, (1, a1)), (3, (0, a2)), (4, (0, a3))] [] h _ _
  unfold f_Mt_legalOf at hv
  refine jG.blk (st_Mt_legalOf) 5 (pc1 := 7) (L1 := [(7, (1, a1)), (5, (1, 0)), (0, (2, ((2 : Nat) : Int))), (1, (1, a1)), (3, (0, a2)), (4, (0, a3))]) (st1 := [(1, a1)]) (h1 := h) rfl ?_
  obtain ⟨v1, hq, hv⟩ := Option.bind_eq_some_iff.mp hv
  refine jT.cS (M1 := M_Jl_bitCount) [(1, a1)] [] (st_Mt_legalOf) rfl rfl ok_Jl_bitCount rfl (Nat.le_of_ble_eq_true rfl) (Nat.le_of_ble_eq_true rfl) rfl (Nat.le_of_ble_eq_true rfl) (C_Jl_bitCount hq) ?_
  show jG E _ 10 [(7, (1, a1)), (5, (1, 0)), (0, (2, ((2 : Nat) : Int))), (1, (1, a1)), (3, (0, a2)), (4, (0, a3))] [(0, v1)] h _ _
  refine jG.blk (st_Mt_legalOf) 1 (pc1 := 12) (L1 := [(9, (0, v1)), (7, (1, a1)), (5, (1, 0)), (0, (2, ((2 : Nat) : Int))), (1, (1, a1)), (3, (0, a2)), (4, (0, a3))]) (st1 := []) (h1 := h) rfl ?_
  refine jG.subp [3, 5, 6, 2, 1, 0] (L1 := [(0, (2, ((2 : Nat) : Int))), (3, (0, a2)), (4, (0, a3)), (5, (1, 0)), (7, (1, a1)), (9, (0, v1))]) rfl ?_
  refine f_Mt_legalOf_lp12_ok E (fun l10 l11 l12 h13 res hv => ?_) 1000 _ _ _ _ _ hv
  · refine jG.blk (st_Mt_legalOf) 1 (pc1 := 62) (L1 := [(5, (1, l10))]) (st1 := [(1, l10)]) (h1 := h13) rfl ?_
    cases hv
    exact jT.lret (st_Mt_legalOf) rfl trivial
def f_Mt_size_lp4 (t : Nat) (h : jH) (k : Int → Int → Option (Int)) : Nat → Int → Int → Option (Int)
  | 0, _, _ => none
  | n + 1, l1, l2 => if 64 ≤ l2 then k l1 l2 else jgd (0 ≤ l2 ∧ l2 < 64) ((f_Jl_bitCount h (h (t + 1) l2.toNat)).bind fun v3 => jgd (0 ≤ l2 ∧ l2 < 64) ((f_Jl_bitCount h (h (t + 2) l2.toNat)).bind fun v4 => f_Mt_size_lp4 t h k n (jadd l1 (jadd v3 (jmul 4 v4))) (jadd l2 1)))
def f_Mt_size (t : Nat) (h : jH) : Option (Int) := f_Mt_size_lp4 t h (fun l5 l6 => some l5) 1000 0 0
set_option maxRecDepth 100000 in
set_option maxHeartbeats 4000000 in
theorem f_Mt_size_lp4_ok (E : jE) (t : Nat) (hr : t = 11 ∨ t = 14) {h : jH} {k : Int → Int → Option (Int)} (hk : ∀ (l1 : Int) (l2 : Int) (res : Int), k l1 l2 = some res → jG E M_Mt_size 40 [(1, (0, l1))] [] h (some (0, res)) h) : ∀ (n : Nat) (l1 : Int) (l2 : Int) (res : Int), f_Mt_size_lp4 t h k n l1 l2 = some res → jG E M_Mt_size 4 [(0, (2, ((t : Nat) : Int))), (1, (0, l1)), (2, (0, l2))] [] h (some (0, res)) h := by
  rcases hr with rfl | rfl
  · intro n
    induction n with
    | zero => intro l1 l2 res hv; cases hv
    | succ n ih =>
      intro l1 l2 res hv
      rw [f_Mt_size_lp4] at hv
      refine jG.blk (st_Mt_size) 2 (pc1 := 7) (L1 := [(0, (2, ((11 : Nat) : Int))), (1, (0, l1)), (2, (0, l2))]) (st1 := [(0, 64), (0, l2)]) (h1 := h) rfl ?_
      refine jT.if2 (st_Mt_size) rfl (tgt := 40) (by decide) (fun hc => ?_) (fun hc => ?_)
      · have hc : 64 ≤ l2 := hc
        try rw [if_pos hc] at hv
        refine jG.subp [1] (L1 := [(1, (0, l1))]) rfl ?_
        exact hk _ _ _ hv
      · have hc : ¬ (64 ≤ l2) := hc
        try rw [if_neg hc] at hv
        refine jG.blk (st_Mt_size) 4 (pc1 := 16) (L1 := [(0, (2, ((11 : Nat) : Int))), (1, (0, l1)), (2, (0, l2))]) (st1 := [(0, l2), (2, ((11 + 1 : Nat) : Int)), (0, l1)]) (h1 := h) rfl ?_
        obtain ⟨hg, hv⟩ := jgd_some hv
        refine jT.lald (a := 11 + 1) (st_Mt_size) rfl rfl (by decide) hg.1 hg.2 ?_
        obtain ⟨v3, hq, hv⟩ := Option.bind_eq_some_iff.mp hv
        refine jT.cS (M1 := M_Jl_bitCount) [(1, h (11 + 1) l2.toNat)] [(0, l1)] (st_Mt_size) rfl rfl ok_Jl_bitCount rfl (Nat.le_of_ble_eq_true rfl) (Nat.le_of_ble_eq_true rfl) rfl (Nat.le_of_ble_eq_true rfl) (C_Jl_bitCount hq) ?_
        show jG E _ 20 [(0, (2, ((11 : Nat) : Int))), (1, (0, l1)), (2, (0, l2))] [(0, v3), (0, l1)] h _ _
        refine jG.blk (st_Mt_size) 4 (pc1 := 26) (L1 := [(0, (2, ((11 : Nat) : Int))), (1, (0, l1)), (2, (0, l2))]) (st1 := [(0, l2), (2, ((11 + 2 : Nat) : Int)), (0, 4), (0, v3), (0, l1)]) (h1 := h) rfl ?_
        obtain ⟨hg, hv⟩ := jgd_some hv
        refine jT.lald (a := 11 + 2) (st_Mt_size) rfl rfl (by decide) hg.1 hg.2 ?_
        obtain ⟨v4, hq, hv⟩ := Option.bind_eq_some_iff.mp hv
        refine jT.cS (M1 := M_Jl_bitCount) [(1, h (11 + 2) l2.toNat)] [(0, 4), (0, v3), (0, l1)] (st_Mt_size) rfl rfl ok_Jl_bitCount rfl (Nat.le_of_ble_eq_true rfl) (Nat.le_of_ble_eq_true rfl) rfl (Nat.le_of_ble_eq_true rfl) (C_Jl_bitCount hq) ?_
        show jG E _ 30 [(0, (2, ((11 : Nat) : Int))), (1, (0, l1)), (2, (0, l2))] [(0, v4), (0, 4), (0, v3), (0, l1)] h _ _
        refine jG.blk (st_Mt_size) 5 (pc1 := 37) (L1 := [(2, (0, jadd l2 1)), (1, (0, jadd l1 (jadd v3 (jmul 4 v4)))), (0, (2, ((11 : Nat) : Int)))]) (st1 := []) (h1 := h) rfl ?_
        refine jT.goto (st_Mt_size) rfl (tgt := 4) (by decide) ?_
        refine jG.subp [2, 1, 0] (L1 := [(0, (2, ((11 : Nat) : Int))), (1, (0, jadd l1 (jadd v3 (jmul 4 v4)))), (2, (0, jadd l2 1))]) rfl ?_
        exact ih _ _ _ hv
  · intro n
    induction n with
    | zero => intro l1 l2 res hv; cases hv
    | succ n ih =>
      intro l1 l2 res hv
      rw [f_Mt_size_lp4] at hv
      refine jG.blk (st_Mt_size) 2 (pc1 := 7) (L1 := [(0, (2, ((14 : Nat) : Int))), (1, (0, l1)), (2, (0, l2))]) (st1 := [(0, 64), (0, l2)]) (h1 := h) rfl ?_
      refine jT.if2 (st_Mt_size) rfl (tgt := 40) (by decide) (fun hc => ?_) (fun hc => ?_)
      · have hc : 64 ≤ l2 := hc
        try rw [if_pos hc] at hv
        refine jG.subp [1] (L1 := [(1, (0, l1))]) rfl ?_
        exact hk _ _ _ hv
      · have hc : ¬ (64 ≤ l2) := hc
        try rw [if_neg hc] at hv
        refine jG.blk (st_Mt_size) 4 (pc1 := 16) (L1 := [(0, (2, ((14 : Nat) : Int))), (1, (0, l1)), (2, (0, l2))]) (st1 := [(0, l2), (2, ((14 + 1 : Nat) : Int)), (0, l1)]) (h1 := h) rfl ?_
        obtain ⟨hg, hv⟩ := jgd_some hv
        refine jT.lald (a := 14 + 1) (st_Mt_size) rfl rfl (by decide) hg.1 hg.2 ?_
        obtain ⟨v3, hq, hv⟩ := Option.bind_eq_some_iff.mp hv
        refine jT.cS (M1 := M_Jl_bitCount) [(1, h (14 + 1) l2.toNat)] [(0, l1)] (st_Mt_size) rfl rfl ok_Jl_bitCount rfl (Nat.le_of_ble_eq_true rfl) (Nat.le_of_ble_eq_true rfl) rfl (Nat.le_of_ble_eq_true rfl) (C_Jl_bitCount hq) ?_
        show jG E _ 20 [(0, (2, ((14 : Nat) : Int))), (1, (0, l1)), (2, (0, l2))] [(0, v3), (0, l1)] h _ _
        refine jG.blk (st_Mt_size) 4 (pc1 := 26) (L1 := [(0, (2, ((14 : Nat) : Int))), (1, (0, l1)), (2, (0, l2))]) (st1 := [(0, l2), (2, ((14 + 2 : Nat) : Int)), (0, 4), (0, v3), (0, l1)]) (h1 := h) rfl ?_
        obtain ⟨hg, hv⟩ := jgd_some hv
        refine jT.lald (a := 14 + 2) (st_Mt_size) rfl rfl (by decide) hg.1 hg.2 ?_
        obtain ⟨v4, hq, hv⟩ := Option.bind_eq_some_iff.mp hv
        refine jT.cS (M1 := M_Jl_bitCount) [(1, h (14 + 2) l2.toNat)] [(0, 4), (0, v3), (0, l1)] (st_Mt_size) rfl rfl ok_Jl_bitCount rfl (Nat.le_of_ble_eq_true rfl) (Nat.le_of_ble_eq_true rfl) rfl (Nat.le_of_ble_eq_true rfl) (C_Jl_bitCount hq) ?_
        show jG E _ 30 [(0, (2, ((14 : Nat) : Int))), (1, (0, l1)), (2, (0, l2))] [(0, v4), (0, 4), (0, v3), (0, l1)] h _ _
        refine jG.blk (st_Mt_size) 5 (pc1 := 37) (L1 := [(2, (0, jadd l2 1)), (1, (0, jadd l1 (jadd v3 (jmul 4 v4)))), (0, (2, ((14 : Nat) : Int)))]) (st1 := []) (h1 := h) rfl ?_
        refine jT.goto (st_Mt_size) rfl (tgt := 4) (by decide) ?_
        refine jG.subp [2, 1, 0] (L1 := [(0, (2, ((14 : Nat) : Int))), (1, (0, jadd l1 (jadd v3 (jmul 4 v4)))), (2, (0, jadd l2 1))]) rfl ?_
        exact ih _ _ _ hv
set_option maxRecDepth 100000 in
set_option maxHeartbeats 4000000 in
theorem C_Mt_size {E : jE} {t : Nat} (hr : t = 11 ∨ t = 14) {h : jH} {res : Int} (hv : f_Mt_size t h = some res) : jC E M_Mt_size [(2, ((t : Nat) : Int))] h (some (0, res)) h := by
  rcases hr with rfl | rfl
  · refine jC.of ok_Mt_size.1 (by rw [jlg]; exact Nat.le_of_ble_eq_true rfl) ?_
    show jG E _ 0 [(0, (2, ((11 : Nat) : Int)))] [] h _ _
    unfold f_Mt_size at hv
    refine jG.blk (st_Mt_size) 4 (pc1 := 4) (L1 := [(2, (0, 0)), (1, (0, 0)), (0, (2, ((11 : Nat) : Int)))]) (st1 := []) (h1 := h) rfl ?_
    refine jG.subp [2, 1, 0] (L1 := [(0, (2, ((11 : Nat) : Int))), (1, (0, 0)), (2, (0, 0))]) rfl ?_
    refine f_Mt_size_lp4_ok E 11 (by decide) (fun l5 l6 res hv => ?_) 1000 _ _ _ hv
    · refine jG.blk (st_Mt_size) 1 (pc1 := 41) (L1 := [(1, (0, l5))]) (st1 := [(0, l5)]) (h1 := h) rfl ?_
      cases hv
      exact jT.iret (st_Mt_size) rfl trivial
  · refine jC.of ok_Mt_size.1 (by rw [jlg]; exact Nat.le_of_ble_eq_true rfl) ?_
    show jG E _ 0 [(0, (2, ((14 : Nat) : Int)))] [] h _ _
    unfold f_Mt_size at hv
    refine jG.blk (st_Mt_size) 4 (pc1 := 4) (L1 := [(2, (0, 0)), (1, (0, 0)), (0, (2, ((14 : Nat) : Int)))]) (st1 := []) (h1 := h) rfl ?_
    refine jG.subp [2, 1, 0] (L1 := [(0, (2, ((14 : Nat) : Int))), (1, (0, 0)), (2, (0, 0))]) rfl ?_
    refine f_Mt_size_lp4_ok E 14 (by decide) (fun l5 l6 res hv => ?_) 1000 _ _ _ hv
    · refine jG.blk (st_Mt_size) 1 (pc1 := 41) (L1 := [(1, (0, l5))]) (st1 := [(0, l5)]) (h1 := h) rfl ?_
      cases hv
      exact jT.iret (st_Mt_size) rfl trivial
def f_Mt_gather_lp18 (t : Nat) (k : Int → jH → Option (Int × jH)) : Nat → Int → jH → Option (Int × jH)
  | 0, _, _ => none
  | n + 1, l3, h4 => if 64 ≤ l3 then k l3 h4 else jgd (0 ≤ l3 ∧ l3 < 64) ((f_X_sideOf h4 (h4 3 l3.toNat)).bind fun v5 => if v5 = h4 2 1 then (f_Mt_addPiece t h4 l3).bind fun v6 => f_Mt_gather_lp18 t k n (jadd l3 1) v6 else f_Mt_gather_lp18 t k n (jadd l3 1) h4)
def f_Mt_gather_lp68 (t : Nat) (x12 : Int) (k : Int → jH → Option (Int × jH)) : Nat → Int → jH → Option (Int × jH)
  | 0, _, _ => none
  | n + 1, l11, h13 => if 64 ≤ l11 then k l11 h13 else if x12 = (-1) then k l11 h13 else jgd (0 ≤ l11 ∧ l11 < 64) ((f_Mt_legalOf h13 (h13 (t + 1) l11.toNat) l11 x12).bind fun v14 => jgd (0 ≤ l11 ∧ l11 < 64) (jgd (0 ≤ l11 ∧ l11 < 64) ((f_Mt_legalOf (jup v14.2 (t + 1) l11.toNat v14.1) ((jup v14.2 (t + 1) l11.toNat v14.1) (t + 2) l11.toNat) l11 x12).bind fun v15 => jgd (0 ≤ l11 ∧ l11 < 64) (f_Mt_gather_lp68 t x12 k n (jadd l11 1) (jup v15.2 (t + 2) l11.toNat v15.1)))))
def f_Mt_gather_j121 (t : Nat) (h18 : jH) : Option (Int × jH) := (f_Mt_size t h18).bind fun v19 => some (v19, h18)
def f_Mt_gather (t : Nat) (h : jH) : Option (Int × jH) := (f_Ja_fillJ (t + 1) h 0).bind fun v1 => (f_Ja_fillJ (t + 2) v1 0).bind fun v2 => f_Mt_gather_lp18 t (fun l7 h8 => (f_Mt_addCastling t h8).bind fun v9 => (f_Bd_kingSquare 2 v9 (v9 2 1)).bind fun v10 => f_Mt_gather_lp68 t v10 (fun l16 h17 => f_Mt_gather_j121 t h17) 1000 0 v9) 1000 0 v2
set_option maxRecDepth 100000 in
set_option maxHeartbeats 4000000 in
theorem f_Mt_gather_lp18_ok (E : jE) (t : Nat) (hr : t = 11 ∨ t = 14) {k : Int → jH → Option (Int × jH)} (hk : ∀ (l3 : Int) (h4 : jH) (res : Int × jH), k l3 h4 = some res → jG E M_Mt_gather 52 [(0, (2, ((t : Nat) : Int))), (1, (2, ((2 : Nat) : Int)))] [] h4 (some (0, res.1)) res.2) : ∀ (n : Nat) (l3 : Int) (h4 : jH) (res : Int × jH), f_Mt_gather_lp18 t k n l3 h4 = some res → jG E M_Mt_gather 18 [(0, (2, ((t : Nat) : Int))), (1, (2, ((2 : Nat) : Int))), (2, (0, l3))] [] h4 (some (0, res.1)) res.2 := by
  rcases hr with rfl | rfl
  · intro n
    induction n with
    | zero => intro l3 h4 res hv; cases hv
    | succ n ih =>
      intro l3 h4 res hv
      rw [f_Mt_gather_lp18] at hv
      refine jG.blk (st_Mt_gather) 2 (pc1 := 21) (L1 := [(0, (2, ((11 : Nat) : Int))), (1, (2, ((2 : Nat) : Int))), (2, (0, l3))]) (st1 := [(0, 64), (0, l3)]) (h1 := h4) rfl ?_
      refine jT.if2 (st_Mt_gather) rfl (tgt := 52) (by decide) (fun hc => ?_) (fun hc => ?_)
      · have hc : 64 ≤ l3 := hc
        try rw [if_pos hc] at hv
        refine jG.subp [0, 1] (L1 := [(0, (2, ((11 : Nat) : Int))), (1, (2, ((2 : Nat) : Int)))]) rfl ?_
        exact hk _ _ _ hv
      · have hc : ¬ (64 ≤ l3) := hc
        try rw [if_neg hc] at hv
        refine jG.blk (st_Mt_gather) 3 (pc1 := 29) (L1 := [(0, (2, ((11 : Nat) : Int))), (1, (2, ((2 : Nat) : Int))), (2, (0, l3))]) (st1 := [(0, l3), (2, ((3 : Nat) : Int))]) (h1 := h4) rfl ?_
        obtain ⟨hg, hv⟩ := jgd_some hv
        refine jT.iald (a := 3) (st_Mt_gather) rfl rfl (by decide) hg.1 hg.2 ?_
        obtain ⟨v5, hq, hv⟩ := Option.bind_eq_some_iff.mp hv
        refine jT.cSN (M1 := M_X_sideOf) [(0, h4 3 l3.toNat)] [] (st_Mt_gather) rfl rfl ok_X_sideOf rfl (Nat.le_of_ble_eq_true rfl) (Nat.le_of_ble_eq_true rfl) rfl (Nat.le_of_ble_eq_true rfl) (C_X_sideOf hq) ?_
        show jG E _ 33 [(0, (2, ((11 : Nat) : Int))), (1, (2, ((2 : Nat) : Int))), (2, (0, l3))] [(0, v5)] h4 _ _
        refine jG.blk (st_Mt_gather) 2 (pc1 := 37) (L1 := [(0, (2, ((11 : Nat) : Int))), (1, (2, ((2 : Nat) : Int))), (2, (0, l3))]) (st1 := [(0, h4 2 1), (0, v5)]) (h1 := h4) rfl ?_
        refine jT.if2 (st_Mt_gather) rfl (tgt := 46) (by decide) (fun hc => ?_) (fun hc => ?_)
        · have hc : ¬ (v5 = h4 2 1) := hc
          try rw [if_neg hc] at hv
          refine jG.blk (st_Mt_gather) 1 (pc1 := 49) (L1 := [(2, (0, jadd l3 1)), (0, (2, ((11 : Nat) : Int))), (1, (2, ((2 : Nat) : Int)))]) (st1 := []) (h1 := h4) rfl ?_
          refine jT.goto (st_Mt_gather) rfl (tgt := 18) (by decide) ?_
          refine jG.subp [1, 2, 0] (L1 := [(0, (2, ((11 : Nat) : Int))), (1, (2, ((2 : Nat) : Int))), (2, (0, jadd l3 1))]) rfl ?_
          exact ih _ _ _ hv
        · have hc : v5 = h4 2 1 := Decidable.not_not.mp hc
          try rw [if_pos hc] at hv
          refine jG.blk (st_Mt_gather) 3 (pc1 := 43) (L1 := [(0, (2, ((11 : Nat) : Int))), (1, (2, ((2 : Nat) : Int))), (2, (0, l3))]) (st1 := [(0, l3), (2, ((2 : Nat) : Int)), (2, ((11 : Nat) : Int))]) (h1 := h4) rfl ?_
          obtain ⟨v6, hq, hv⟩ := Option.bind_eq_some_iff.mp hv
          refine jT.cV (M1 := M_Mt_addPiece) (2, ((11 : Nat) : Int)) [(2, ((2 : Nat) : Int)), (0, l3)] [] (st_Mt_gather) rfl rfl ok_Mt_addPiece rfl (Or.inl ⟨rfl, _, _, _, rfl, rfl⟩) (Nat.le_of_ble_eq_true rfl) (Nat.le_of_ble_eq_true rfl) rfl (Nat.le_of_ble_eq_true rfl) (C_Mt_addPiece (by decide) hq) ?_
          show jG E _ 46 [(0, (2, ((11 : Nat) : Int))), (1, (2, ((2 : Nat) : Int))), (2, (0, l3))] [] v6 _ _
          refine jG.blk (st_Mt_gather) 1 (pc1 := 49) (L1 := [(2, (0, jadd l3 1)), (0, (2, ((11 : Nat) : Int))), (1, (2, ((2 : Nat) : Int)))]) (st1 := []) (h1 := v6) rfl ?_
          refine jT.goto (st_Mt_gather) rfl (tgt := 18) (by decide) ?_
          refine jG.subp [1, 2, 0] (L1 := [(0, (2, ((11 : Nat) : Int))), (1, (2, ((2 : Nat) : Int))), (2, (0, jadd l3 1))]) rfl ?_
          exact ih _ _ _ hv
  · intro n
    induction n with
    | zero => intro l3 h4 res hv; cases hv
    | succ n ih =>
      intro l3 h4 res hv
      rw [f_Mt_gather_lp18] at hv
      refine jG.blk (st_Mt_gather) 2 (pc1 := 21) (L1 := [(0, (2, ((14 : Nat) : Int))), (1, (2, ((2 : Nat) : Int))), (2, (0, l3))]) (st1 := [(0, 64), (0, l3)]) (h1 := h4) rfl ?_
      refine jT.if2 (st_Mt_gather) rfl (tgt := 52) (by decide) (fun hc => ?_) (fun hc => ?_)
      · have hc : 64 ≤ l3 := hc
        try rw [if_pos hc] at hv
        refine jG.subp [0, 1] (L1 := [(0, (2, ((14 : Nat) : Int))), (1, (2, ((2 : Nat) : Int)))]) rfl ?_
        exact hk _ _ _ hv
      · have hc : ¬ (64 ≤ l3) := hc
        try rw [if_neg hc] at hv
        refine jG.blk (st_Mt_gather) 3 (pc1 := 29) (L1 := [(0, (2, ((14 : Nat) : Int))), (1, (2, ((2 : Nat) : Int))), (2, (0, l3))]) (st1 := [(0, l3), (2, ((3 : Nat) : Int))]) (h1 := h4) rfl ?_
        obtain ⟨hg, hv⟩ := jgd_some hv
        refine jT.iald (a := 3) (st_Mt_gather) rfl rfl (by decide) hg.1 hg.2 ?_
        obtain ⟨v5, hq, hv⟩ := Option.bind_eq_some_iff.mp hv
        refine jT.cSN (M1 := M_X_sideOf) [(0, h4 3 l3.toNat)] [] (st_Mt_gather) rfl rfl ok_X_sideOf rfl (Nat.le_of_ble_eq_true rfl) (Nat.le_of_ble_eq_true rfl) rfl (Nat.le_of_ble_eq_true rfl) (C_X_sideOf hq) ?_
        show jG E _ 33 [(0, (2, ((14 : Nat) : Int))), (1, (2, ((2 : Nat) : Int))), (2, (0, l3))] [(0, v5)] h4 _ _
        refine jG.blk (st_Mt_gather) 2 (pc1 := 37) (L1 := [(0, (2, ((14 : Nat) : Int))), (1, (2, ((2 : Nat) : Int))), (2, (0, l3))]) (st1 := [(0, h4 2 1), (0, v5)]) (h1 := h4) rfl ?_
        refine jT.if2 (st_Mt_gather) rfl (tgt := 46) (by decide) (fun hc => ?_) (fun hc => ?_)
        · have hc : ¬ (v5 = h4 2 1) := hc
          try rw [if_neg hc] at hv
          refine jG.blk (st_Mt_gather) 1 (pc1 := 49) (L1 := [(2, (0, jadd l3 1)), (0, (2, ((14 : Nat) : Int))), (1, (2, ((2 : Nat) : Int)))]) (st1 := []) (h1 := h4) rfl ?_
          refine jT.goto (st_Mt_gather) rfl (tgt := 18) (by decide) ?_
          refine jG.subp [1, 2, 0] (L1 := [(0, (2, ((14 : Nat) : Int))), (1, (2, ((2 : Nat) : Int))), (2, (0, jadd l3 1))]) rfl ?_
          exact ih _ _ _ hv
        · have hc : v5 = h4 2 1 := Decidable.not_not.mp hc
          try rw [if_pos hc] at hv
          refine jG.blk (st_Mt_gather) 3 (pc1 := 43) (L1 := [(0, (2, ((14 : Nat) : Int))), (1, (2, ((2 : Nat) : Int))), (2, (0, l3))]) (st1 := [(0, l3), (2, ((2 : Nat) : Int)), (2, ((14 : Nat) : Int))]) (h1 := h4) rfl ?_
          obtain ⟨v6, hq, hv⟩ := Option.bind_eq_some_iff.mp hv
          refine jT.cV (M1 := M_Mt_addPiece) (2, ((14 : Nat) : Int)) [(2, ((2 : Nat) : Int)), (0, l3)] [] (st_Mt_gather) rfl rfl ok_Mt_addPiece rfl (Or.inl ⟨rfl, _, _, _, rfl, rfl⟩) (Nat.le_of_ble_eq_true rfl) (Nat.le_of_ble_eq_true rfl) rfl (Nat.le_of_ble_eq_true rfl) (C_Mt_addPiece (by decide) hq) ?_
          show jG E _ 46 [(0, (2, ((14 : Nat) : Int))), (1, (2, ((2 : Nat) : Int))), (2, (0, l3))] [] v6 _ _
          refine jG.blk (st_Mt_gather) 1 (pc1 := 49) (L1 := [(2, (0, jadd l3 1)), (0, (2, ((14 : Nat) : Int))), (1, (2, ((2 : Nat) : Int)))]) (st1 := []) (h1 := v6) rfl ?_
          refine jT.goto (st_Mt_gather) rfl (tgt := 18) (by decide) ?_
          refine jG.subp [1, 2, 0] (L1 := [(0, (2, ((14 : Nat) : Int))), (1, (2, ((2 : Nat) : Int))), (2, (0, jadd l3 1))]) rfl ?_
          exact ih _ _ _ hv
set_option maxRecDepth 100000 in
set_option maxHeartbeats 4000000 in
theorem f_Mt_gather_lp68_ok (E : jE) (t : Nat) (hr : t = 11 ∨ t = 14) {x12 : Int} {k : Int → jH → Option (Int × jH)} (hk : ∀ (l11 : Int) (h13 : jH) (res : Int × jH), k l11 h13 = some res → jG E M_Mt_gather 121 [(0, (2, ((t : Nat) : Int)))] [] h13 (some (0, res.1)) res.2) : ∀ (n : Nat) (l11 : Int) (h13 : jH) (res : Int × jH), f_Mt_gather_lp68 t x12 k n l11 h13 = some res → jG E M_Mt_gather 68 [(0, (2, ((t : Nat) : Int))), (1, (2, ((2 : Nat) : Int))), (2, (0, x12)), (3, (0, l11))] [] h13 (some (0, res.1)) res.2 := by
  rcases hr with rfl | rfl
  · intro n
    induction n with
    | zero => intro l11 h13 res hv; cases hv
    | succ n ih =>
      intro l11 h13 res hv
      rw [f_Mt_gather_lp68] at hv
      refine jG.blk (st_Mt_gather) 2 (pc1 := 71) (L1 := [(0, (2, ((11 : Nat) : Int))), (1, (2, ((2 : Nat) : Int))), (2, (0, x12)), (3, (0, l11))]) (st1 := [(0, 64), (0, l11)]) (h1 := h13) rfl ?_
      refine jT.if2 (st_Mt_gather) rfl (tgt := 121) (by decide) (fun hc => ?_) (fun hc => ?_)
      · have hc : 64 ≤ l11 := hc
        try rw [if_pos hc] at hv
        refine jG.subp [0] (L1 := [(0, (2, ((11 : Nat) : Int)))]) rfl ?_
        exact hk _ _ _ hv
      · have hc : ¬ (64 ≤ l11) := hc
        try rw [if_neg hc] at hv
        refine jG.blk (st_Mt_gather) 2 (pc1 := 76) (L1 := [(0, (2, ((11 : Nat) : Int))), (1, (2, ((2 : Nat) : Int))), (2, (0, x12)), (3, (0, l11))]) (st1 := [(0, (-1)), (0, x12)]) (h1 := h13) rfl ?_
        refine jT.if2 (st_Mt_gather) rfl (tgt := 121) (by decide) (fun hc => ?_) (fun hc => ?_)
        · have hc : x12 = (-1) := hc
          try rw [if_pos hc] at hv
          refine jG.subp [0] (L1 := [(0, (2, ((11 : Nat) : Int)))]) rfl ?_
          exact hk _ _ _ hv
        · have hc : ¬ (x12 = (-1)) := hc
          try rw [if_neg hc] at hv
          refine jG.blk (st_Mt_gather) 7 (pc1 := 90) (L1 := [(0, (2, ((11 : Nat) : Int))), (1, (2, ((2 : Nat) : Int))), (2, (0, x12)), (3, (0, l11))]) (st1 := [(0, l11), (2, ((11 + 1 : Nat) : Int)), (2, ((2 : Nat) : Int)), (0, l11), (2, ((11 + 1 : Nat) : Int))]) (h1 := h13) rfl ?_
          obtain ⟨hg, hv⟩ := jgd_some hv
          refine jT.lald (a := 11 + 1) (st_Mt_gather) rfl rfl (by decide) hg.1 hg.2 ?_
          refine jG.blk (st_Mt_gather) 2 (pc1 := 93) (L1 := [(0, (2, ((11 : Nat) : Int))), (1, (2, ((2 : Nat) : Int))), (2, (0, x12)), (3, (0, l11))]) (st1 := [(0, x12), (0, l11), (1, h13 (11 + 1) l11.toNat), (2, ((2 : Nat) : Int)), (0, l11), (2, ((11 + 1 : Nat) : Int))]) (h1 := h13) rfl ?_
          obtain ⟨v14, hq, hv⟩ := Option.bind_eq_some_iff.mp hv
          refine jT.cS (M1 := M_Mt_legalOf) [(2, ((2 : Nat) : Int)), (1, h13 (11 + 1) l11.toNat), (0, l11), (0, x12)] [(0, l11), (2, ((11 + 1 : Nat) : Int))] (st_Mt_gather) rfl rfl ok_Mt_legalOf rfl (Nat.le_of_ble_eq_true rfl) (Nat.le_of_ble_eq_true rfl) rfl (Nat.le_of_ble_eq_true rfl) (C_Mt_legalOf hq) ?_
          show jG E _ 96 [(0, (2, ((11 : Nat) : Int))), (1, (2, ((2 : Nat) : Int))), (2, (0, x12)), (3, (0, l11))] [(1, v14.1), (0, l11), (2, ((11 + 1 : Nat) : Int))] v14.2 _ _
          obtain ⟨hg, hv⟩ := jgd_some hv
          refine jT.last (a := 11 + 1) (st_Mt_gather) rfl rfl (by decide) hg.1 hg.2 ?_
          refine jG.blk (st_Mt_gather) 7 (pc1 := 108) (L1 := [(0, (2, ((11 : Nat) : Int))), (1, (2, ((2 : Nat) : Int))), (2, (0, x12)), (3, (0, l11))]) (st1 := [(0, l11), (2, ((11 + 2 : Nat) : Int)), (2, ((2 : Nat) : Int)), (0, l11), (2, ((11 + 2 : Nat) : Int))]) (h1 := jup v14.2 (11 + 1) l11.toNat v14.1) rfl ?_
          obtain ⟨hg, hv⟩ := jgd_some hv
          refine jT.lald (a := 11 + 2) (st_Mt_gather) rfl rfl (by decide) hg.1 hg.2 ?_
          refine jG.blk (st_Mt_gather) 2 (pc1 := 111) (L1 := [(0, (2, ((11 : Nat) : Int))), (1, (2, ((2 : Nat) : Int))), (2, (0, x12)), (3, (0, l11))]) (st1 := [(0, x12), (0, l11), (1, (jup v14.2 (11 + 1) l11.toNat v14.1) (11 + 2) l11.toNat), (2, ((2 : Nat) : Int)), (0, l11), (2, ((11 + 2 : Nat) : Int))]) (h1 := jup v14.2 (11 + 1) l11.toNat v14.1) rfl ?_
          obtain ⟨v15, hq, hv⟩ := Option.bind_eq_some_iff.mp hv
          refine jT.cS (M1 := M_Mt_legalOf) [(2, ((2 : Nat) : Int)), (1, (jup v14.2 (11 + 1) l11.toNat v14.1) (11 + 2) l11.toNat), (0, l11), (0, x12)] [(0, l11), (2, ((11 + 2 : Nat) : Int))] (st_Mt_gather) rfl rfl ok_Mt_legalOf rfl (Nat.le_of_ble_eq_true rfl) (Nat.le_of_ble_eq_true rfl) rfl (Nat.le_of_ble_eq_true rfl) (C_Mt_legalOf hq) ?_
          show jG E _ 114 [(0, (2, ((11 : Nat) : Int))), (1, (2, ((2 : Nat) : Int))), (2, (0, x12)), (3, (0, l11))] [(1, v15.1), (0, l11), (2, ((11 + 2 : Nat) : Int))] v15.2 _ _
          obtain ⟨hg, hv⟩ := jgd_some hv
          refine jT.last (a := 11 + 2) (st_Mt_gather) rfl rfl (by decide) hg.1 hg.2 ?_
          refine jG.blk (st_Mt_gather) 1 (pc1 := 118) (L1 := [(3, (0, jadd l11 1)), (0, (2, ((11 : Nat) : Int))), (1, (2, ((2 : Nat) : Int))), (2, (0, x12))]) (st1 := []) (h1 := jup v15.2 (11 + 2) l11.toNat v15.1) rfl ?_
          refine jT.goto (st_Mt_gather) rfl (tgt := 68) (by decide) ?_
          refine jG.subp [1, 2, 3, 0] (L1 := [(0, (2, ((11 : Nat) : Int))), (1, (2, ((2 : Nat) : Int))), (2, (0, x12)), (3, (0, jadd l11 1))]) rfl ?_
          exact ih _ _ _ hv
  · intro n
    induction n with
    | zero => intro l11 h13 res hv; cases hv
    | succ n ih =>
      intro l11 h13 res hv
      rw [f_Mt_gather_lp68] at hv
      refine jG.blk (st_Mt_gather) 2 (pc1 := 71) (L1 := [(0, (2, ((14 : Nat) : Int))), (1, (2, ((2 : Nat) : Int))), (2, (0, x12)), (3, (0, l11))]) (st1 := [(0, 64), (0, l11)]) (h1 := h13) rfl ?_
      refine jT.if2 (st_Mt_gather) rfl (tgt := 121) (by decide) (fun hc => ?_) (fun hc => ?_)
      · have hc : 64 ≤ l11 := hc
        try rw [if_pos hc] at hv
        refine jG.subp [0] (L1 := [(0, (2, ((14 : Nat) : Int)))]) rfl ?_
        exact hk _ _ _ hv
      · have hc : ¬ (64 ≤ l11) := hc
        try rw [if_neg hc] at hv
        refine jG.blk (st_Mt_gather) 2 (pc1 := 76) (L1 := [(0, (2, ((14 : Nat) : Int))), (1, (2, ((2 : Nat) : Int))), (2, (0, x12)), (3, (0, l11))]) (st1 := [(0, (-1)), (0, x12)]) (h1 := h13) rfl ?_
        refine jT.if2 (st_Mt_gather) rfl (tgt := 121) (by decide) (fun hc => ?_) (fun hc => ?_)
        · have hc : x12 = (-1) := hc
          try rw [if_pos hc] at hv
          refine jG.subp [0] (L1 := [(0, (2, ((14 : Nat) : Int)))]) rfl ?_
          exact hk _ _ _ hv
        · have hc : ¬ (x12 = (-1)) := hc
          try rw [if_neg hc] at hv
          refine jG.blk (st_Mt_gather) 7 (pc1 := 90) (L1 := [(0, (2, ((14 : Nat) : Int))), (1, (2, ((2 : Nat) : Int))), (2, (0, x12)), (3, (0, l11))]) (st1 := [(0, l11), (2, ((14 + 1 : Nat) : Int)), (2, ((2 : Nat) : Int)), (0, l11), (2, ((14 + 1 : Nat) : Int))]) (h1 := h13) rfl ?_
          obtain ⟨hg, hv⟩ := jgd_some hv
          refine jT.lald (a := 14 + 1) (st_Mt_gather) rfl rfl (by decide) hg.1 hg.2 ?_
          refine jG.blk (st_Mt_gather) 2 (pc1 := 93) (L1 := [(0, (2, ((14 : Nat) : Int))), (1, (2, ((2 : Nat) : Int))), (2, (0, x12)), (3, (0, l11))]) (st1 := [(0, x12), (0, l11), (1, h13 (14 + 1) l11.toNat), (2, ((2 : Nat) : Int)), (0, l11), (2, ((14 + 1 : Nat) : Int))]) (h1 := h13) rfl ?_
          obtain ⟨v14, hq, hv⟩ := Option.bind_eq_some_iff.mp hv
          refine jT.cS (M1 := M_Mt_legalOf) [(2, ((2 : Nat) : Int)), (1, h13 (14 + 1) l11.toNat), (0, l11), (0, x12)] [(0, l11), (2, ((14 + 1 : Nat) : Int))] (st_Mt_gather) rfl rfl ok_Mt_legalOf rfl (Nat.le_of_ble_eq_true rfl) (Nat.le_of_ble_eq_true rfl) rfl (Nat.le_of_ble_eq_true rfl) (C_Mt_legalOf hq) ?_
          show jG E _ 96 [(0, (2, ((14 : Nat) : Int))), (1, (2, ((2 : Nat) : Int))), (2, (0, x12)), (3, (0, l11))] [(1, v14.1), (0, l11), (2, ((14 + 1 : Nat) : Int))] v14.2 _ _
          obtain ⟨hg, hv⟩ := jgd_some hv
          refine jT.last (a := 14 + 1) (st_Mt_gather) rfl rfl (by decide) hg.1 hg.2 ?_
          refine jG.blk (st_Mt_gather) 7 (pc1 := 108) (L1 := [(0, (2, ((14 : Nat) : Int))), (1, (2, ((2 : Nat) : Int))), (2, (0, x12)), (3, (0, l11))]) (st1 := [(0, l11), (2, ((14 + 2 : Nat) : Int)), (2, ((2 : Nat) : Int)), (0, l11), (2, ((14 + 2 : Nat) : Int))]) (h1 := jup v14.2 (14 + 1) l11.toNat v14.1) rfl ?_
          obtain ⟨hg, hv⟩ := jgd_some hv
          refine jT.lald (a := 14 + 2) (st_Mt_gather) rfl rfl (by decide) hg.1 hg.2 ?_
          refine jG.blk (st_Mt_gather) 2 (pc1 := 111) (L1 := [(0, (2, ((14 : Nat) : Int))), (1, (2, ((2 : Nat) : Int))), (2, (0, x12)), (3, (0, l11))]) (st1 := [(0, x12), (0, l11), (1, (jup v14.2 (14 + 1) l11.toNat v14.1) (14 + 2) l11.toNat), (2, ((2 : Nat) : Int)), (0, l11), (2, ((14 + 2 : Nat) : Int))]) (h1 := jup v14.2 (14 + 1) l11.toNat v14.1) rfl ?_
          obtain ⟨v15, hq, hv⟩ := Option.bind_eq_some_iff.mp hv
          refine jT.cS (M1 := M_Mt_legalOf) [(2, ((2 : Nat) : Int)), (1, (jup v14.2 (14 + 1) l11.toNat v14.1) (14 + 2) l11.toNat), (0, l11), (0, x12)] [(0, l11), (2, ((14 + 2 : Nat) : Int))] (st_Mt_gather) rfl rfl ok_Mt_legalOf rfl (Nat.le_of_ble_eq_true rfl) (Nat.le_of_ble_eq_true rfl) rfl (Nat.le_of_ble_eq_true rfl) (C_Mt_legalOf hq) ?_
          show jG E _ 114 [(0, (2, ((14 : Nat) : Int))), (1, (2, ((2 : Nat) : Int))), (2, (0, x12)), (3, (0, l11))] [(1, v15.1), (0, l11), (2, ((14 + 2 : Nat) : Int))] v15.2 _ _
          obtain ⟨hg, hv⟩ := jgd_some hv
          refine jT.last (a := 14 + 2) (st_Mt_gather) rfl rfl (by decide) hg.1 hg.2 ?_
          refine jG.blk (st_Mt_gather) 1 (pc1 := 118) (L1 := [(3, (0, jadd l11 1)), (0, (2, ((14 : Nat) : Int))), (1, (2, ((2 : Nat) : Int))), (2, (0, x12))]) (st1 := []) (h1 := jup v15.2 (14 + 2) l11.toNat v15.1) rfl ?_
          refine jT.goto (st_Mt_gather) rfl (tgt := 68) (by decide) ?_
          refine jG.subp [1, 2, 3, 0] (L1 := [(0, (2, ((14 : Nat) : Int))), (1, (2, ((2 : Nat) : Int))), (2, (0, x12)), (3, (0, jadd l11 1))]) rfl ?_
          exact ih _ _ _ hv
set_option maxRecDepth 100000 in
set_option maxHeartbeats 4000000 in
theorem f_Mt_gather_j121_ok (E : jE) (t : Nat) (hr : t = 11 ∨ t = 14) {h18 : jH} {res : Int × jH} (hv : f_Mt_gather_j121 t h18 = some res) : jG E M_Mt_gather 121 [(0, (2, ((t : Nat) : Int)))] [] h18 (some (0, res.1)) res.2 := by
  rcases hr with rfl | rfl
  · unfold f_Mt_gather_j121 at hv
    refine jG.blk (st_Mt_gather) 1 (pc1 := 122) (L1 := [(0, (2, ((11 : Nat) : Int)))]) (st1 := [(2, ((11 : Nat) : Int))]) (h1 := h18) rfl ?_
    obtain ⟨v19, hq, hv⟩ := Option.bind_eq_some_iff.mp hv
    refine jT.cV (M1 := M_Mt_size) (2, ((11 : Nat) : Int)) [] [] (st_Mt_gather) rfl rfl ok_Mt_size rfl (Or.inl ⟨rfl, _, _, _, rfl, rfl⟩) (Nat.le_of_ble_eq_true rfl) (Nat.le_of_ble_eq_true rfl) rfl (Nat.le_of_ble_eq_true rfl) (C_Mt_size (by decide) hq) ?_
    show jG E _ 125 [(0, (2, ((11 : Nat) : Int)))] [(0, v19)] h18 _ _
    cases hv
    exact jT.iret (st_Mt_gather) rfl trivial
  · unfold f_Mt_gather_j121 at hv
    refine jG.blk (st_Mt_gather) 1 (pc1 := 122) (L1 := [(0, (2, ((14 : Nat) : Int)))]) (st1 := [(2, ((14 : Nat) : Int))]) (h1 := h18) rfl ?_
    obtain ⟨v19, hq, hv⟩ := Option.bind_eq_some_iff.mp hv
    refine jT.cV (M1 := M_Mt_size) (2, ((14 : Nat) : Int)) [] [] (st_Mt_gather) rfl rfl ok_Mt_size rfl (Or.inl ⟨rfl, _, _, _, rfl, rfl⟩) (Nat.le_of_ble_eq_true rfl) (Nat.le_of_ble_eq_true rfl) rfl (Nat.le_of_ble_eq_true rfl) (C_Mt_size (by decide) hq) ?_
    show jG E _ 125 [(0, (2, ((14 : Nat) : Int)))] [(0, v19)] h18 _ _
    cases hv
    exact jT.iret (st_Mt_gather) rfl trivial
set_option maxRecDepth 100000 in
set_option maxHeartbeats 4000000 in
theorem C_Mt_gather {E : jE} {t : Nat} (hr : t = 11 ∨ t = 14) {h : jH} {res : Int × jH} (hv : f_Mt_gather t h = some res) : jC E M_Mt_gather [(2, ((t : Nat) : Int)), (2, ((2 : Nat) : Int))] h (some (0, res.1)) res.2 := by
  rcases hr with rfl | rfl
  · refine jC.of ok_Mt_gather.1 (by rw [jlg]; exact Nat.le_of_ble_eq_true rfl) ?_
    show jG E _ 0 [(0, (2, ((11 : Nat) : Int))), (1, (2, ((2 : Nat) : Int)))] [] h _ _
    unfold f_Mt_gather at hv
    refine jG.blk (st_Mt_gather) 3 (pc1 := 5) (L1 := [(0, (2, ((11 : Nat) : Int))), (1, (2, ((2 : Nat) : Int)))]) (st1 := [(1, 0), (2, ((11 + 1 : Nat) : Int))]) (h1 := h) rfl ?_
    obtain ⟨v1, hq, hv⟩ := Option.bind_eq_some_iff.mp hv
    refine jT.cS (M1 := M_Ja_fillJ) [(2, ((11 + 1 : Nat) : Int)), (1, 0)] [] (st_Mt_gather) rfl rfl ok_Ja_fillJ rfl (Nat.le_of_ble_eq_true rfl) (Nat.le_of_ble_eq_true rfl) rfl (Nat.le_of_ble_eq_true rfl) (C_Ja_fillJ (by decide) hq) ?_
    show jG E _ 8 [(0, (2, ((11 : Nat) : Int))), (1, (2, ((2 : Nat) : Int)))] [] v1 _ _
    refine jG.blk (st_Mt_gather) 3 (pc1 := 13) (L1 := [(0, (2, ((11 : Nat) : Int))), (1, (2, ((2 : Nat) : Int)))]) (st1 := [(1, 0), (2, ((11 + 2 : Nat) : Int))]) (h1 := v1) rfl ?_
    obtain ⟨v2, hq, hv⟩ := Option.bind_eq_some_iff.mp hv
    refine jT.cS (M1 := M_Ja_fillJ) [(2, ((11 + 2 : Nat) : Int)), (1, 0)] [] (st_Mt_gather) rfl rfl ok_Ja_fillJ rfl (Nat.le_of_ble_eq_true rfl) (Nat.le_of_ble_eq_true rfl) rfl (Nat.le_of_ble_eq_true rfl) (C_Ja_fillJ (by decide) hq) ?_
    show jG E _ 16 [(0, (2, ((11 : Nat) : Int))), (1, (2, ((2 : Nat) : Int)))] [] v2 _ _
    refine jG.blk (st_Mt_gather) 2 (pc1 := 18) (L1 := [(2, (0, 0)), (0, (2, ((11 : Nat) : Int))), (1, (2, ((2 : Nat) : Int)))]) (st1 := []) (h1 := v2) rfl ?_
    refine jG.subp [1, 2, 0] (L1 := [(0, (2, ((11 : Nat) : Int))), (1, (2, ((2 : Nat) : Int))), (2, (0, 0))]) rfl ?_
    refine f_Mt_gather_lp18_ok E 11 (by decide) (fun l7 h8 res hv => ?_) 1000 _ _ _ hv
    · refine jG.blk (st_Mt_gather) 2 (pc1 := 54) (L1 := [(0, (2, ((11 : Nat) : Int))), (1, (2, ((2 : Nat) : Int)))]) (st1 := [(2, ((2 : Nat) : Int)), (2, ((11 : Nat) : Int))]) (h1 := h8) rfl ?_
      obtain ⟨v9, hq, hv⟩ := Option.bind_eq_some_iff.mp hv
      refine jT.cV (M1 := M_Mt_addCastling) (2, ((11 : Nat) : Int)) [(2, ((2 : Nat) : Int))] [] (st_Mt_gather) rfl rfl ok_Mt_addCastling rfl (Or.inl ⟨rfl, _, _, _, rfl, rfl⟩) (Nat.le_of_ble_eq_true rfl) (Nat.le_of_ble_eq_true rfl) rfl (Nat.le_of_ble_eq_true rfl) (C_Mt_addCastling (by decide) hq) ?_
      show jG E _ 57 [(0, (2, ((11 : Nat) : Int))), (1, (2, ((2 : Nat) : Int)))] [] v9 _ _
      refine jG.blk (st_Mt_gather) 3 (pc1 := 62) (L1 := [(0, (2, ((11 : Nat) : Int))), (1, (2, ((2 : Nat) : Int)))]) (st1 := [(0, v9 2 1), (2, ((2 : Nat) : Int))]) (h1 := v9) rfl ?_
      obtain ⟨v10, hq, hv⟩ := Option.bind_eq_some_iff.mp hv
      refine jT.cV (M1 := M_Bd_kingSquare) (2, ((2 : Nat) : Int)) [(0, v9 2 1)] [] (st_Mt_gather) rfl rfl ok_Bd_kingSquare rfl (Or.inl ⟨rfl, _, _, _, rfl, rfl⟩) (Nat.le_of_ble_eq_true rfl) (Nat.le_of_ble_eq_true rfl) rfl (Nat.le_of_ble_eq_true rfl) (C_Bd_kingSquare (by decide) hq) ?_
      show jG E _ 65 [(0, (2, ((11 : Nat) : Int))), (1, (2, ((2 : Nat) : Int)))] [(0, v10)] v9 _ _
      refine jG.blk (st_Mt_gather) 3 (pc1 := 68) (L1 := [(3, (0, 0)), (2, (0, v10)), (0, (2, ((11 : Nat) : Int))), (1, (2, ((2 : Nat) : Int)))]) (st1 := []) (h1 := v9) rfl ?_
      refine jG.subp [2, 3, 1, 0] (L1 := [(0, (2, ((11 : Nat) : Int))), (1, (2, ((2 : Nat) : Int))), (2, (0, v10)), (3, (0, 0))]) rfl ?_
      refine f_Mt_gather_lp68_ok E 11 (by decide) (fun l16 h17 res hv => ?_) 1000 _ _ _ hv
      · exact f_Mt_gather_j121_ok E 11 (by decide) hv
  · refine jC.of ok_Mt_gather.1 (by rw [jlg]; exact Nat.le_of_ble_eq_true rfl) ?_
    show jG E _ 0 [(0, (2, ((14 : Nat) : Int))), (1, (2, ((2 : Nat) : Int)))] [] h _ _
    unfold f_Mt_gather at hv
    refine jG.blk (st_Mt_gather) 3 (pc1 := 5) (L1 := [(0, (2, ((14 : Nat) : Int))), (1, (2, ((2 : Nat) : Int)))]) (st1 := [(1, 0), (2, ((14 + 1 : Nat) : Int))]) (h1 := h) rfl ?_
    obtain ⟨v1, hq, hv⟩ := Option.bind_eq_some_iff.mp hv
    refine jT.cS (M1 := M_Ja_fillJ) [(2, ((14 + 1 : Nat) : Int)), (1, 0)] [] (st_Mt_gather) rfl rfl ok_Ja_fillJ rfl (Nat.le_of_ble_eq_true rfl) (Nat.le_of_ble_eq_true rfl) rfl (Nat.le_of_ble_eq_true rfl) (C_Ja_fillJ (by decide) hq) ?_
    show jG E _ 8 [(0, (2, ((14 : Nat) : Int))), (1, (2, ((2 : Nat) : Int)))] [] v1 _ _
    refine jG.blk (st_Mt_gather) 3 (pc1 := 13) (L1 := [(0, (2, ((14 : Nat) : Int))), (1, (2, ((2 : Nat) : Int)))]) (st1 := [(1, 0), (2, ((14 + 2 : Nat) : Int))]) (h1 := v1) rfl ?_
    obtain ⟨v2, hq, hv⟩ := Option.bind_eq_some_iff.mp hv
    refine jT.cS (M1 := M_Ja_fillJ) [(2, ((14 + 2 : Nat) : Int)), (1, 0)] [] (st_Mt_gather) rfl rfl ok_Ja_fillJ rfl (Nat.le_of_ble_eq_true rfl) (Nat.le_of_ble_eq_true rfl) rfl (Nat.le_of_ble_eq_true rfl) (C_Ja_fillJ (by decide) hq) ?_
    show jG E _ 16 [(0, (2, ((14 : Nat) : Int))), (1, (2, ((2 : Nat) : Int)))] [] v2 _ _
    refine jG.blk (st_Mt_gather) 2 (pc1 := 18) (L1 := [(2, (0, 0)), (0, (2, ((14 : Nat) : Int))), (1, (2, ((2 : Nat) : Int)))]) (st1 := []) (h1 := v2) rfl ?_
    refine jG.subp [1, 2, 0] (L1 := [(0, (2, ((14 : Nat) : Int))), (1, (2, ((2 : Nat) : Int))), (2, (0, 0))]) rfl ?_
    refine f_Mt_gather_lp18_ok E 14 (by decide) (fun l7 h8 res hv => ?_) 1000 _ _ _ hv
    · refine jG.blk (st_Mt_gather) 2 (pc1 := 54) (L1 := [(0, (2, ((14 : Nat) : Int))), (1, (2, ((2 : Nat) : Int)))]) (st1 := [(2, ((2 : Nat) : Int)), (2, ((14 : Nat) : Int))]) (h1 := h8) rfl ?_
      obtain ⟨v9, hq, hv⟩ := Option.bind_eq_some_iff.mp hv
      refine jT.cV (M1 := M_Mt_addCastling) (2, ((14 : Nat) : Int)) [(2, ((2 : Nat) : Int))] [] (st_Mt_gather) rfl rfl ok_Mt_addCastling rfl (Or.inl ⟨rfl, _, _, _, rfl, rfl⟩) (Nat.le_of_ble_eq_true rfl) (Nat.le_of_ble_eq_true rfl) rfl (Nat.le_of_ble_eq_true rfl) (C_Mt_addCastling (by decide) hq) ?_
      show jG E _ 57 [(0, (2, ((14 : Nat) : Int))), (1, (2, ((2 : Nat) : Int)))] [] v9 _ _
      refine jG.blk (st_Mt_gather) 3 (pc1 := 62) (L1 := [(0, (2, ((14 : Nat) : Int))), (1, (2, ((2 : Nat) : Int)))]) (st1 := [(0, v9 2 1), (2, ((2 : Nat) : Int))]) (h1 := v9) rfl ?_
      obtain ⟨v10, hq, hv⟩ := Option.bind_eq_some_iff.mp hv
      refine jT.cV (M1 := M_Bd_kingSquare) (2, ((2 : Nat) : Int)) [(0, v9 2 1)] [] (st_Mt_gather) rfl rfl ok_Bd_kingSquare rfl (Or.inl ⟨rfl, _, _, _, rfl, rfl⟩) (Nat.le_of_ble_eq_true rfl) (Nat.le_of_ble_eq_true rfl) rfl (Nat.le_of_ble_eq_true rfl) (C_Bd_kingSquare (by decide) hq) ?_
      show jG E _ 65 [(0, (2, ((14 : Nat) : Int))), (1, (2, ((2 : Nat) : Int)))] [(0, v10)] v9 _ _
      refine jG.blk (st_Mt_gather) 3 (pc1 := 68) (L1 := [(3, (0, 0)), (2, (0, v10)), (0, (2, ((14 : Nat) : Int))), (1, (2, ((2 : Nat) : Int)))]) (st1 := []) (h1 := v9) rfl ?_
      refine jG.subp [2, 3, 1, 0] (L1 := [(0, (2, ((14 : Nat) : Int))), (1, (2, ((2 : Nat) : Int))), (2, (0, v10)), (3, (0, 0))]) rfl ?_
      refine f_Mt_gather_lp68_ok E 14 (by decide) (fun l16 h17 res hv => ?_) 1000 _ _ _ hv
      · exact f_Mt_gather_j121_ok E 14 (by decide) hv
def f_Mt_sourcesOf (h : jH) (a1 : Int) (a2 : Int) : Option (Int) := if a1 = 0 then jgd (0 ≤ a2 ∧ a2 < 64) (some (h 12 a2.toNat)) else jgd (0 ≤ a2 ∧ a2 < 64) (some (h 13 a2.toNat))
set_option maxRecDepth 100000 in
set_option maxHeartbeats 4000000 in
theorem C_Mt_sourcesOf {E : jE} {h : jH} {a1 : Int} {a2 : Int} {res : Int} (hv : f_Mt_sourcesOf h a1 a2 = some res) : jC E M_Mt_sourcesOf [(2, ((11 : Nat) : Int)), (0, a1), (0, a2)] h (some (1, res)) h := by
  refine jC.of ok_Mt_sourcesOf.1 (by rw [jlg]; exact Nat.le_of_ble_eq_true rfl) ?_
  show jG E _ 0 [(0, (2, ((11 : Nat) : Int))), (1, (0, a1)), (2, (0, a2))] [] h _ _
  unfold f_Mt_sourcesOf at hv
  refine jG.blk (st_Mt_sourcesOf) 1 (pc1 := 1) (L1 := [(0, (2, ((11 : Nat) : Int))), (1, (0, a1)), (2, (0, a2))]) (st1 := [(0, a1)]) (h1 := h) rfl ?_
  refine jT.if1 (st_Mt_sourcesOf) rfl (tgt := 13) (by decide) (fun hc => ?_) (fun hc => ?_)
  · have hc : ¬ (a1 = 0) := hc
    try rw [if_neg hc] at hv
    refine jG.blk (st_Mt_sourcesOf) 3 (pc1 := 18) (L1 := [(0, (2, ((11 : Nat) : Int))), (1, (0, a1)), (2, (0, a2))]) (st1 := [(0, a2), (2, ((13 : Nat) : Int))]) (h1 := h) rfl ?_
    obtain ⟨hg, hv⟩ := jgd_some hv
    refine jT.lald (a := 13) (st_Mt_sourcesOf) rfl rfl (by decide) hg.1 hg.2 ?_
    cases hv
    exact jT.lret (st_Mt_sourcesOf) rfl trivial
  · have hc : a1 = 0 := Decidable.not_not.mp hc
    try rw [if_pos hc] at hv
    refine jG.blk (st_Mt_sourcesOf) 3 (pc1 := 9) (L1 := [(0, (2, ((11 : Nat) : Int))), (1, (0, a1)), (2, (0, a2))]) (st1 := [(0, a2), (2, ((12 : Nat) : Int))]) (h1 := h) rfl ?_
    obtain ⟨hg, hv⟩ := jgd_some hv
    refine jT.lald (a := 12) (st_Mt_sourcesOf) rfl rfl (by decide) hg.1 hg.2 ?_
    refine jT.goto (st_Mt_sourcesOf) rfl (tgt := 19) (by decide) ?_
    cases hv
    exact jT.lret (st_Mt_sourcesOf) rfl trivial
def f_Mt_bitNumber_lp5 (h : jH) (x3 : Int) (k : Int → Int → Option (Int)) : Nat → Int → Int → Option (Int)
  | 0, _, _ => none
  | n + 1, l1, l2 => if x3 ≤ l2 then k l1 l2 else f_Mt_bitNumber_lp5 h x3 k n (jland l1 (jlsub l1 1)) (jadd l2 1)
def f_Mt_bitNumber (h : jH) (a0 : Int) (a1 : Int) : Option (Int) := f_Mt_bitNumber_lp5 h a1 (fun l4 l5 => (f_Jl_numberOfTrailingZeros h l4).bind fun v6 => some v6) 1000 a0 0
set_option maxRecDepth 100000 in
set_option maxHeartbeats 4000000 in
theorem f_Mt_bitNumber_lp5_ok (E : jE) {h : jH} {x3 : Int} {k : Int → Int → Option (Int)} (hk : ∀ (l1 : Int) (l2 : Int) (res : Int), k l1 l2 = some res → jG E M_Mt_bitNumber 23 [(3, (1, l1))] [] h (some (0, res)) h) : ∀ (n : Nat) (l1 : Int) (l2 : Int) (res : Int), f_Mt_bitNumber_lp5 h x3 k n l1 l2 = some res → jG E M_Mt_bitNumber 5 [(2, (0, x3)), (3, (1, l1)), (5, (0, l2))] [] h (some (0, res)) h := by
  intro n
  induction n with
  | zero => intro l1 l2 res hv; cases hv
  | succ n ih =>
    intro l1 l2 res hv
    rw [f_Mt_bitNumber_lp5] at hv
    refine jG.blk (st_Mt_bitNumber) 2 (pc1 := 8) (L1 := [(2, (0, x3)), (3, (1, l1)), (5, (0, l2))]) (st1 := [(0, x3), (0, l2)]) (h1 := h) rfl ?_
    refine jT.if2 (st_Mt_bitNumber) rfl (tgt := 23) (by decide) (fun hc => ?_) (fun hc => ?_)
    · have hc : x3 ≤ l2 := hc
      try rw [if_pos hc] at hv
      refine jG.subp [1] (L1 := [(3, (1, l1))]) rfl ?_
      exact hk _ _ _ hv
    · have hc : ¬ (x3 ≤ l2) := hc
      try rw [if_neg hc] at hv
      refine jG.blk (st_Mt_bitNumber) 7 (pc1 := 20) (L1 := [(5, (0, jadd l2 1)), (3, (1, jland l1 (jlsub l1 1))), (2, (0, x3))]) (st1 := []) (h1 := h) rfl ?_
      refine jT.goto (st_Mt_bitNumber) rfl (tgt := 5) (by decide) ?_
      refine jG.subp [2, 1, 0] (L1 := [(2, (0, x3)), (3, (1, jland l1 (jlsub l1 1))), (5, (0, jadd l2 1))]) rfl ?_
      exact ih _ _ _ hv
set_option maxRecDepth 100000 in
set_option maxHeartbeats 4000000 in
theorem C_Mt_bitNumber {E : jE} {h : jH} {a0 : Int} {a1 : Int} {res : Int} (hv : f_Mt_bitNumber h a0 a1 = some res) : jC E M_Mt_bitNumber [(1, a0), (0, a1)] h (some (0, res)) h := by
  refine jC.of ok_Mt_bitNumber.1 (by rw [jlg]; exact Nat.le_of_ble_eq_true rfl) ?_
  show jG E _ 0 [(0, (1, a0)), (2, (0, a1))] [] h _ _
  unfold f_Mt_bitNumber at hv
  refine jG.blk (st_Mt_bitNumber) 4 (pc1 := 5) (L1 := [(5, (0, 0)), (3, (1, a0)), (0, (1, a0)), (2, (0, a1))]) (st1 := []) (h1 := h) rfl ?_
  refine jG.subp [3, 1, 0] (L1 := [(2, (0, a1)), (3, (1, a0)), (5, (0, 0))]) rfl ?_
  refine f_Mt_bitNumber_lp5_ok E (fun l4 l5 res hv => ?_) 1000 _ _ _ hv
  · refine jG.blk (st_Mt_bitNumber) 1 (pc1 := 24) (L1 := [(3, (1, l4))]) (st1 := [(1, l4)]) (h1 := h) rfl ?_
    obtain ⟨v6, hq, hv⟩ := Option.bind_eq_some_iff.mp hv
    refine jT.cS (M1 := M_Jl_numberOfTrailingZeros) [(1, l4)] [] (st_Mt_bitNumber) rfl rfl ok_Jl_numberOfTrailingZeros rfl (Nat.le_of_ble_eq_true rfl) (Nat.le_of_ble_eq_true rfl) rfl (Nat.le_of_ble_eq_true rfl) (C_Jl_numberOfTrailingZeros hq) ?_
    show jG E _ 27 [(3, (1, l4))] [(0, v6)] h _ _
    cases hv
    exact jT.iret (st_Mt_bitNumber) rfl trivial
def f_Mt_codeOf_lp12 (h : jH) (x5 : Int) (k : Int → Int → Option (Int)) : Nat → Int → Int → Option (Int)
  | 0, _, _ => none
  | n + 1, l3, l4 => if 64 ≤ l4 then k l3 l4 else (f_Mt_sourcesOf h x5 l4).bind fun v6 => (f_Jl_bitCount h v6).bind fun v7 => if v7 ≤ l3 then f_Mt_codeOf_lp12 h x5 k n (jsub l3 v7) (jadd l4 1) else (f_Mt_bitNumber h v6 l3).bind fun v8 => some (jadd (jadd v8 (jmul 64 l4)) (jmul 4096 x5))
def f_Mt_codeOf_lp4 (h : jH) (k : Int → Int → Option (Int)) : Nat → Int → Int → Option (Int)
  | 0, _, _ => none
  | n + 1, l1, l2 => if 4 < l2 then k l1 l2 else f_Mt_codeOf_lp12 h l2 (fun l9 l10 => f_Mt_codeOf_lp4 h k n l9 (jadd l2 1)) 1000 l1 0
def f_Mt_codeOf (h : jH) (a1 : Int) : Option (Int) := f_Mt_codeOf_lp4 h (fun l11 l12 => some (-1)) 1000 a1 0
set_option maxRecDepth 100000 in
set_option maxHeartbeats 4000000 in
theorem f_Mt_codeOf_lp12_ok (E : jE) {h : jH} {x5 : Int} {k : Int → Int → Option (Int)} (hk : ∀ (l3 : Int) (l4 : Int) (res : Int), k l3 l4 = some res → jG E M_Mt_codeOf 71 [(0, (2, ((11 : Nat) : Int))), (2, (0, l3)), (3, (0, x5))] [] h (some (0, res)) h) : ∀ (n : Nat) (l3 : Int) (l4 : Int) (res : Int), f_Mt_codeOf_lp12 h x5 k n l3 l4 = some res → jG E M_Mt_codeOf 12 [(0, (2, ((11 : Nat) : Int))), (2, (0, l3)), (3, (0, x5)), (4, (0, l4))] [] h (some (0, res)) h := by
  intro n
  induction n with
  | zero => intro l3 l4 res hv; cases hv
  | succ n ih =>
    intro l3 l4 res hv
    rw [f_Mt_codeOf_lp12] at hv
    refine jG.blk (st_Mt_codeOf) 2 (pc1 := 16) (L1 := [(0, (2, ((11 : Nat) : Int))), (2, (0, l3)), (3, (0, x5)), (4, (0, l4))]) (st1 := [(0, 64), (0, l4)]) (h1 := h) rfl ?_
    refine jT.if2 (st_Mt_codeOf) rfl (tgt := 71) (by decide) (fun hc => ?_) (fun hc => ?_)
    · have hc : 64 ≤ l4 := hc
      try rw [if_pos hc] at hv
      refine jG.subp [0, 1, 2] (L1 := [(0, (2, ((11 : Nat) : Int))), (2, (0, l3)), (3, (0, x5))]) rfl ?_
      exact hk _ _ _ hv
    · have hc : ¬ (64 ≤ l4) := hc
      try rw [if_neg hc] at hv
      refine jG.blk (st_Mt_codeOf) 3 (pc1 := 23) (L1 := [(0, (2, ((11 : Nat) : Int))), (2, (0, l3)), (3, (0, x5)), (4, (0, l4))]) (st1 := [(0, l4), (0, x5), (2, ((11 : Nat) : Int))]) (h1 := h) rfl ?_
      obtain ⟨v6, hq, hv⟩ := Option.bind_eq_some_iff.mp hv
      refine jT.cV (M1 := M_Mt_sourcesOf) (2, ((11 : Nat) : Int)) [(0, x5), (0, l4)] [] (st_Mt_codeOf) rfl rfl ok_Mt_sourcesOf rfl (Or.inl ⟨rfl, _, _, _, rfl, rfl⟩) (Nat.le_of_ble_eq_true rfl) (Nat.le_of_ble_eq_true rfl) rfl (Nat.le_of_ble_eq_true rfl) (C_Mt_sourcesOf hq) ?_
      show jG E _ 26 [(0, (2, ((11 : Nat) : Int))), (2, (0, l3)), (3, (0, x5)), (4, (0, l4))] [(1, v6)] h _ _
      refine jG.blk (st_Mt_codeOf) 2 (pc1 := 30) (L1 := [(5, (1, v6)), (0, (2, ((11 : Nat) : Int))), (2, (0, l3)), (3, (0, x5)), (4, (0, l4))]) (st1 := [(1, v6)]) (h1 := h) rfl ?_
      obtain ⟨v7, hq, hv⟩ := Option.bind_eq_some_iff.mp hv
      refine jT.cS (M1 := M_Jl_bitCount) [(1, v6)] [] (st_Mt_codeOf) rfl rfl ok_Jl_bitCount rfl (Nat.le_of_ble_eq_true rfl) (Nat.le_of_ble_eq_true rfl) rfl (Nat.le_of_ble_eq_true rfl) (C_Jl_bitCount hq) ?_
      show jG E _ 33 [(5, (1, v6)), (0, (2, ((11 : Nat) : Int))), (2, (0, l3)), (3, (0, x5)), (4, (0, l4))] [(0, v7)] h _ _
      refine jG.blk (st_Mt_codeOf) 3 (pc1 := 38) (L1 := [(7, (0, v7)), (5, (1, v6)), (0, (2, ((11 : Nat) : Int))), (2, (0, l3)), (3, (0, x5)), (4, (0, l4))]) (st1 := [(0, v7), (0, l3)]) (h1 := h) rfl ?_
      refine jT.if2 (st_Mt_codeOf) rfl (tgt := 60) (by decide) (fun hc => ?_) (fun hc => ?_)
      · have hc : v7 ≤ l3 := hc
        try rw [if_pos hc] at hv
        refine jG.blk (st_Mt_codeOf) 5 (pc1 := 68) (L1 := [(4, (0, jadd l4 1)), (2, (0, jsub l3 v7)), (7, (0, v7)), (5, (1, v6)), (0, (2, ((11 : Nat) : Int))), (3, (0, x5))]) (st1 := []) (h1 := h) rfl ?_
        refine jT.goto (st_Mt_codeOf) rfl (tgt := 12) (by decide) ?_
        refine jG.subp [4, 1, 5, 0] (L1 := [(0, (2, ((11 : Nat) : Int))), (2, (0, jsub l3 v7)), (3, (0, x5)), (4, (0, jadd l4 1))]) rfl ?_
        exact ih _ _ _ hv
      · have hc : ¬ (v7 ≤ l3) := hc
        try rw [if_neg hc] at hv
        refine jG.blk (st_Mt_codeOf) 2 (pc1 := 44) (L1 := [(7, (0, v7)), (5, (1, v6)), (0, (2, ((11 : Nat) : Int))), (2, (0, l3)), (3, (0, x5)), (4, (0, l4))]) (st1 := [(0, l3), (1, v6)]) (h1 := h) rfl ?_
        obtain ⟨v8, hq, hv⟩ := Option.bind_eq_some_iff.mp hv
        refine jT.cS (M1 := M_Mt_bitNumber) [(1, v6), (0, l3)] [] (st_Mt_codeOf) rfl rfl ok_Mt_bitNumber rfl (Nat.le_of_ble_eq_true rfl) (Nat.le_of_ble_eq_true rfl) rfl (Nat.le_of_ble_eq_true rfl) (C_Mt_bitNumber hq) ?_
        show jG E _ 47 [(7, (0, v7)), (5, (1, v6)), (0, (2, ((11 : Nat) : Int))), (2, (0, l3)), (3, (0, x5)), (4, (0, l4))] [(0, v8)] h _ _
        refine jG.blk (st_Mt_codeOf) 8 (pc1 := 59) (L1 := [(7, (0, v7)), (5, (1, v6)), (0, (2, ((11 : Nat) : Int))), (2, (0, l3)), (3, (0, x5)), (4, (0, l4))]) (st1 := [(0, jadd (jadd v8 (jmul 64 l4)) (jmul 4096 x5))]) (h1 := h) rfl ?_
        cases hv
        exact jT.iret (st_Mt_codeOf) rfl trivial
set_option maxRecDepth 100000 in
set_option maxHeartbeats 4000000 in
theorem f_Mt_codeOf_lp4_ok (E : jE) {h : jH} {k : Int → Int → Option (Int)} (hk : ∀ (l1 : Int) (l2 : Int) (res : Int), k l1 l2 = some res → jG E M_Mt_codeOf 77 [] [] h (some (0, res)) h) : ∀ (n : Nat) (l1 : Int) (l2 : Int) (res : Int), f_Mt_codeOf_lp4 h k n l1 l2 = some res → jG E M_Mt_codeOf 4 [(0, (2, ((11 : Nat) : Int))), (2, (0, l1)), (3, (0, l2))] [] h (some (0, res)) h := by
  intro n
  induction n with
  | zero => intro l1 l2 res hv; cases hv
  | succ n ih =>
    intro l1 l2 res hv
    rw [f_Mt_codeOf_lp4] at hv
    refine jG.blk (st_Mt_codeOf) 2 (pc1 := 6) (L1 := [(0, (2, ((11 : Nat) : Int))), (2, (0, l1)), (3, (0, l2))]) (st1 := [(0, 4), (0, l2)]) (h1 := h) rfl ?_
    refine jT.if2 (st_Mt_codeOf) rfl (tgt := 77) (by decide) (fun hc => ?_) (fun hc => ?_)
    · have hc : 4 < l2 := hc
      try rw [if_pos hc] at hv
      refine jG.subp [] (L1 := []) rfl ?_
      exact hk _ _ _ hv
    · have hc : ¬ (4 < l2) := hc
      try rw [if_neg hc] at hv
      refine jG.blk (st_Mt_codeOf) 2 (pc1 := 12) (L1 := [(4, (0, 0)), (0, (2, ((11 : Nat) : Int))), (2, (0, l1)), (3, (0, l2))]) (st1 := []) (h1 := h) rfl ?_
      refine jG.subp [1, 2, 3, 0] (L1 := [(0, (2, ((11 : Nat) : Int))), (2, (0, l1)), (3, (0, l2)), (4, (0, 0))]) rfl ?_
      refine f_Mt_codeOf_lp12_ok E (fun l9 l10 res hv => ?_) 1000 _ _ _ hv
      · refine jG.blk (st_Mt_codeOf) 1 (pc1 := 74) (L1 := [(3, (0, jadd l2 1)), (0, (2, ((11 : Nat) : Int))), (2, (0, l9))]) (st1 := []) (h1 := h) rfl ?_
        refine jT.goto (st_Mt_codeOf) rfl (tgt := 4) (by decide) ?_
        refine jG.subp [1, 2, 0] (L1 := [(0, (2, ((11 : Nat) : Int))), (2, (0, l9)), (3, (0, jadd l2 1))]) rfl ?_
        exact ih _ _ _ hv
set_option maxRecDepth 100000 in
set_option maxHeartbeats 4000000 in
theorem C_Mt_codeOf {E : jE} {h : jH} {a1 : Int} {res : Int} (hv : f_Mt_codeOf h a1 = some res) : jC E M_Mt_codeOf [(2, ((11 : Nat) : Int)), (0, a1)] h (some (0, res)) h := by
  refine jC.of ok_Mt_codeOf.1 (by rw [jlg]; exact Nat.le_of_ble_eq_true rfl) ?_
  show jG E _ 0 [(0, (2, ((11 : Nat) : Int))), (1, (0, a1))] [] h _ _
  unfold f_Mt_codeOf at hv
  refine jG.blk (st_Mt_codeOf) 4 (pc1 := 4) (L1 := [(3, (0, 0)), (2, (0, a1)), (0, (2, ((11 : Nat) : Int))), (1, (0, a1))]) (st1 := []) (h1 := h) rfl ?_
  refine jG.subp [2, 1, 0] (L1 := [(0, (2, ((11 : Nat) : Int))), (2, (0, a1)), (3, (0, 0))]) rfl ?_
  refine f_Mt_codeOf_lp4_ok E (fun l11 l12 res hv => ?_) 1000 _ _ _ hv
  · refine jG.blk (st_Mt_codeOf) 1 (pc1 := 78) (L1 := []) (st1 := [(0, (-1))]) (h1 := h) rfl ?_
    cases hv
    exact jT.iret (st_Mt_codeOf) rfl trivial
def f_Mt_holds (h : jH) (a1 : Int) : Option (Int) := if a1 < 0 then some 0 else if a1 < 20480 then (f_Mt_sourcesOf h (jshr a1 12) (jand (jshr a1 6) 63)).bind fun v1 => some (if jcmp (jland (jlshr v1 (jand a1 63)) 1) 0 = 0 then 0 else 1) else some 0
set_option maxRecDepth 100000 in
set_option maxHeartbeats 4000000 in
theorem C_Mt_holds {E : jE} {h : jH} {a1 : Int} {res : Int} (hv : f_Mt_holds h a1 = some res) : jC E M_Mt_holds [(2, ((11 : Nat) : Int)), (0, a1)] h (some (0, res)) h := by
  refine jC.of ok_Mt_holds.1 (by rw [jlg]; exact Nat.le_of_ble_eq_true rfl) ?_
  show jG E _ 0 [(0, (2, ((11 : Nat) : Int))), (1, (0, a1))] [] h _ _
  unfold f_Mt_holds at hv
  refine jG.blk (st_Mt_holds) 1 (pc1 := 1) (L1 := [(0, (2, ((11 : Nat) : Int))), (1, (0, a1))]) (st1 := [(0, a1)]) (h1 := h) rfl ?_
  refine jT.if1 (st_Mt_holds) rfl (tgt := 11) (by decide) (fun hc => ?_) (fun hc => ?_)
  · have hc : a1 < 0 := hc
    try rw [if_pos hc] at hv
    refine jG.blk (st_Mt_holds) 1 (pc1 := 12) (L1 := [(0, (2, ((11 : Nat) : Int))), (1, (0, a1))]) (st1 := [(0, 0)]) (h1 := h) rfl ?_
    cases hv
    exact jT.iret (st_Mt_holds) rfl (Or.inl rfl)
  · have hc : ¬ (a1 < 0) := hc
    try rw [if_neg hc] at hv
    refine jG.blk (st_Mt_holds) 2 (pc1 := 8) (L1 := [(0, (2, ((11 : Nat) : Int))), (1, (0, a1))]) (st1 := [(0, 20480), (0, a1)]) (h1 := h) rfl ?_
    refine jT.if2 (st_Mt_holds) rfl (tgt := 13) (by decide) (fun hc => ?_) (fun hc => ?_)
    · have hc : a1 < 20480 := hc
      try rw [if_pos hc] at hv
      refine jG.blk (st_Mt_holds) 9 (pc1 := 25) (L1 := [(0, (2, ((11 : Nat) : Int))), (1, (0, a1))]) (st1 := [(0, jand (jshr a1 6) 63), (0, jshr a1 12), (2, ((11 : Nat) : Int))]) (h1 := h) rfl ?_
      obtain ⟨v1, hq, hv⟩ := Option.bind_eq_some_iff.mp hv
      refine jT.cV (M1 := M_Mt_sourcesOf) (2, ((11 : Nat) : Int)) [(0, jshr a1 12), (0, jand (jshr a1 6) 63)] [] (st_Mt_holds) rfl rfl ok_Mt_sourcesOf rfl (Or.inl ⟨rfl, _, _, _, rfl, rfl⟩) (Nat.le_of_ble_eq_true rfl) (Nat.le_of_ble_eq_true rfl) rfl (Nat.le_of_ble_eq_true rfl) (C_Mt_sourcesOf hq) ?_
      show jG E _ 28 [(0, (2, ((11 : Nat) : Int))), (1, (0, a1))] [(1, v1)] h _ _
      refine jG.blk (st_Mt_holds) 10 (pc1 := 39) (L1 := [(2, (1, v1)), (0, (2, ((11 : Nat) : Int))), (1, (0, a1))]) (st1 := [(0, jcmp (jland (jlshr v1 (jand a1 63)) 1) 0)]) (h1 := h) rfl ?_
      refine jT.if1 (st_Mt_holds) rfl (tgt := 46) (by decide) (fun hc => ?_) (fun hc => ?_)
      · have hc : jcmp (jland (jlshr v1 (jand a1 63)) 1) 0 = 0 := hc
        try rw [if_pos hc] at hv
        refine jG.blk (st_Mt_holds) 1 (pc1 := 47) (L1 := [(2, (1, v1)), (0, (2, ((11 : Nat) : Int))), (1, (0, a1))]) (st1 := [(0, 0)]) (h1 := h) rfl ?_
        cases hv
        exact jT.iret (st_Mt_holds) rfl (Or.inl rfl)
      · have hc : ¬ (jcmp (jland (jlshr v1 (jand a1 63)) 1) 0 = 0) := hc
        try rw [if_neg hc] at hv
        refine jG.blk (st_Mt_holds) 1 (pc1 := 43) (L1 := [(2, (1, v1)), (0, (2, ((11 : Nat) : Int))), (1, (0, a1))]) (st1 := [(0, 1)]) (h1 := h) rfl ?_
        refine jT.goto (st_Mt_holds) rfl (tgt := 47) (by decide) ?_
        cases hv
        exact jT.iret (st_Mt_holds) rfl (Or.inr rfl)
    · have hc : ¬ (a1 < 20480) := hc
      try rw [if_neg hc] at hv
      refine jG.blk (st_Mt_holds) 1 (pc1 := 12) (L1 := [(0, (2, ((11 : Nat) : Int))), (1, (0, a1))]) (st1 := [(0, 0)]) (h1 := h) rfl ?_
      cases hv
      exact jT.iret (st_Mt_holds) rfl (Or.inl rfl)
def f_Gm_remember (h : jH) (a1 : Int) (a2 : Int) : Option (jH) := jgd (0 ≤ h 1 6 ∧ h 1 6 < 301) (jgd (0 ≤ (jup h 4 (h 1 6).toNat a1) 1 6 ∧ (jup h 4 (h 1 6).toNat a1) 1 6 < 301) (jgd (0 ≤ (jup (jup h 4 (h 1 6).toNat a1) 5 ((jup h 4 (h 1 6).toNat a1) 1 6).toNat a2) 1 6 ∧ (jup (jup h 4 (h 1 6).toNat a1) 5 ((jup h 4 (h 1 6).toNat a1) 1 6).toNat a2) 1 6 < 301) (jgd (0 ≤ (jup (jup (jup h 4 (h 1 6).toNat a1) 5 ((jup h 4 (h 1 6).toNat a1) 1 6).toNat a2) 6 ((jup (jup h 4 (h 1 6).toNat a1) 5 ((jup h 4 (h 1 6).toNat a1) 1 6).toNat a2) 1 6).toNat ((jup (jup h 4 (h 1 6).toNat a1) 5 ((jup h 4 (h 1 6).toNat a1) 1 6).toNat a2) 2 2)) 1 6 ∧ (jup (jup (jup h 4 (h 1 6).toNat a1) 5 ((jup h 4 (h 1 6).toNat a1) 1 6).toNat a2) 6 ((jup (jup h 4 (h 1 6).toNat a1) 5 ((jup h 4 (h 1 6).toNat a1) 1 6).toNat a2) 1 6).toNat ((jup (jup h 4 (h 1 6).toNat a1) 5 ((jup h 4 (h 1 6).toNat a1) 1 6).toNat a2) 2 2)) 1 6 < 301) (jgd (0 ≤ (jup (jup (jup (jup h 4 (h 1 6).toNat a1) 5 ((jup h 4 (h 1 6).toNat a1) 1 6).toNat a2) 6 ((jup (jup h 4 (h 1 6).toNat a1) 5 ((jup h 4 (h 1 6).toNat a1) 1 6).toNat a2) 1 6).toNat ((jup (jup h 4 (h 1 6).toNat a1) 5 ((jup h 4 (h 1 6).toNat a1) 1 6).toNat a2) 2 2)) 7 ((jup (jup (jup h 4 (h 1 6).toNat a1) 5 ((jup h 4 (h 1 6).toNat a1) 1 6).toNat a2) 6 ((jup (jup h 4 (h 1 6).toNat a1) 5 ((jup h 4 (h 1 6).toNat a1) 1 6).toNat a2) 1 6).toNat ((jup (jup h 4 (h 1 6).toNat a1) 5 ((jup h 4 (h 1 6).toNat a1) 1 6).toNat a2) 2 2)) 1 6).toNat ((jup (jup (jup h 4 (h 1 6).toNat a1) 5 ((jup h 4 (h 1 6).toNat a1) 1 6).toNat a2) 6 ((jup (jup h 4 (h 1 6).toNat a1) 5 ((jup h 4 (h 1 6).toNat a1) 1 6).toNat a2) 1 6).toNat ((jup (jup h 4 (h 1 6).toNat a1) 5 ((jup h 4 (h 1 6).toNat a1) 1 6).toNat a2) 2 2)) 2 3)) 1 6 ∧ (jup (jup (jup (jup h 4 (h 1 6).toNat a1) 5 ((jup h 4 (h 1 6).toNat a1) 1 6).toNat a2) 6 ((jup (jup h 4 (h 1 6).toNat a1) 5 ((jup h 4 (h 1 6).toNat a1) 1 6).toNat a2) 1 6).toNat ((jup (jup h 4 (h 1 6).toNat a1) 5 ((jup h 4 (h 1 6).toNat a1) 1 6).toNat a2) 2 2)) 7 ((jup (jup (jup h 4 (h 1 6).toNat a1) 5 ((jup h 4 (h 1 6).toNat a1) 1 6).toNat a2) 6 ((jup (jup h 4 (h 1 6).toNat a1) 5 ((jup h 4 (h 1 6).toNat a1) 1 6).toNat a2) 1 6).toNat ((jup (jup h 4 (h 1 6).toNat a1) 5 ((jup h 4 (h 1 6).toNat a1) 1 6).toNat a2) 2 2)) 1 6).toNat ((jup (jup (jup h 4 (h 1 6).toNat a1) 5 ((jup h 4 (h 1 6).toNat a1) 1 6).toNat a2) 6 ((jup (jup h 4 (h 1 6).toNat a1) 5 ((jup h 4 (h 1 6).toNat a1) 1 6).toNat a2) 1 6).toNat ((jup (jup h 4 (h 1 6).toNat a1) 5 ((jup h 4 (h 1 6).toNat a1) 1 6).toNat a2) 2 2)) 2 3)) 1 6 < 301) (some (jup (jup (jup (jup (jup (jup h 4 (h 1 6).toNat a1) 5 ((jup h 4 (h 1 6).toNat a1) 1 6).toNat a2) 6 ((jup (jup h 4 (h 1 6).toNat a1) 5 ((jup h 4 (h 1 6).toNat a1) 1 6).toNat a2) 1 6).toNat ((jup (jup h 4 (h 1 6).toNat a1) 5 ((jup h 4 (h 1 6).toNat a1) 1 6).toNat a2) 2 2)) 7 ((jup (jup (jup h 4 (h 1 6).toNat a1) 5 ((jup h 4 (h 1 6).toNat a1) 1 6).toNat a2) 6 ((jup (jup h 4 (h 1 6).toNat a1) 5 ((jup h 4 (h 1 6).toNat a1) 1 6).toNat a2) 1 6).toNat ((jup (jup h 4 (h 1 6).toNat a1) 5 ((jup h 4 (h 1 6).toNat a1) 1 6).toNat a2) 2 2)) 1 6).toNat ((jup (jup (jup h 4 (h 1 6).toNat a1) 5 ((jup h 4 (h 1 6).toNat a1) 1 6).toNat a2) 6 ((jup (jup h 4 (h 1 6).toNat a1) 5 ((jup h 4 (h 1 6).toNat a1) 1 6).toNat a2) 1 6).toNat ((jup (jup h 4 (h 1 6).toNat a1) 5 ((jup h 4 (h 1 6).toNat a1) 1 6).toNat a2) 2 2)) 2 3)) 8 ((jup (jup (jup (jup h 4 (h 1 6).toNat a1) 5 ((jup h 4 (h 1 6).toNat a1) 1 6).toNat a2) 6 ((jup (jup h 4 (h 1 6).toNat a1) 5 ((jup h 4 (h 1 6).toNat a1) 1 6).toNat a2) 1 6).toNat ((jup (jup h 4 (h 1 6).toNat a1) 5 ((jup h 4 (h 1 6).toNat a1) 1 6).toNat a2) 2 2)) 7 ((jup (jup (jup h 4 (h 1 6).toNat a1) 5 ((jup h 4 (h 1 6).toNat a1) 1 6).toNat a2) 6 ((jup (jup h 4 (h 1 6).toNat a1) 5 ((jup h 4 (h 1 6).toNat a1) 1 6).toNat a2) 1 6).toNat ((jup (jup h 4 (h 1 6).toNat a1) 5 ((jup h 4 (h 1 6).toNat a1) 1 6).toNat a2) 2 2)) 1 6).toNat ((jup (jup (jup h 4 (h 1 6).toNat a1) 5 ((jup h 4 (h 1 6).toNat a1) 1 6).toNat a2) 6 ((jup (jup h 4 (h 1 6).toNat a1) 5 ((jup h 4 (h 1 6).toNat a1) 1 6).toNat a2) 1 6).toNat ((jup (jup h 4 (h 1 6).toNat a1) 5 ((jup h 4 (h 1 6).toNat a1) 1 6).toNat a2) 2 2)) 2 3)) 1 6).toNat ((jup (jup (jup (jup h 4 (h 1 6).toNat a1) 5 ((jup h 4 (h 1 6).toNat a1) 1 6).toNat a2) 6 ((jup (jup h 4 (h 1 6).toNat a1) 5 ((jup h 4 (h 1 6).toNat a1) 1 6).toNat a2) 1 6).toNat ((jup (jup h 4 (h 1 6).toNat a1) 5 ((jup h 4 (h 1 6).toNat a1) 1 6).toNat a2) 2 2)) 7 ((jup (jup (jup h 4 (h 1 6).toNat a1) 5 ((jup h 4 (h 1 6).toNat a1) 1 6).toNat a2) 6 ((jup (jup h 4 (h 1 6).toNat a1) 5 ((jup h 4 (h 1 6).toNat a1) 1 6).toNat a2) 1 6).toNat ((jup (jup h 4 (h 1 6).toNat a1) 5 ((jup h 4 (h 1 6).toNat a1) 1 6).toNat a2) 2 2)) 1 6).toNat ((jup (jup (jup h 4 (h 1 6).toNat a1) 5 ((jup h 4 (h 1 6).toNat a1) 1 6).toNat a2) 6 ((jup (jup h 4 (h 1 6).toNat a1) 5 ((jup h 4 (h 1 6).toNat a1) 1 6).toNat a2) 1 6).toNat ((jup (jup h 4 (h 1 6).toNat a1) 5 ((jup h 4 (h 1 6).toNat a1) 1 6).toNat a2) 2 2)) 2 3)) 2 4)) 1 6 (jadd ((jup (jup (jup (jup (jup h 4 (h 1 6).toNat a1) 5 ((jup h 4 (h 1 6).toNat a1) 1 6).toNat a2) 6 ((jup (jup h 4 (h 1 6).toNat a1) 5 ((jup h 4 (h 1 6).toNat a1) 1 6).toNat a2) 1 6).toNat ((jup (jup h 4 (h 1 6).toNat a1) 5 ((jup h 4 (h 1 6).toNat a1) 1 6).toNat a2) 2 2)) 7 ((jup (jup (jup h 4 (h 1 6).toNat a1) 5 ((jup h 4 (h 1 6).toNat a1) 1 6).toNat a2) 6 ((jup (jup h 4 (h 1 6).toNat a1) 5 ((jup h 4 (h 1 6).toNat a1) 1 6).toNat a2) 1 6).toNat ((jup (jup h 4 (h 1 6).toNat a1) 5 ((jup h 4 (h 1 6).toNat a1) 1 6).toNat a2) 2 2)) 1 6).toNat ((jup (jup (jup h 4 (h 1 6).toNat a1) 5 ((jup h 4 (h 1 6).toNat a1) 1 6).toNat a2) 6 ((jup (jup h 4 (h 1 6).toNat a1) 5 ((jup h 4 (h 1 6).toNat a1) 1 6).toNat a2) 1 6).toNat ((jup (jup h 4 (h 1 6).toNat a1) 5 ((jup h 4 (h 1 6).toNat a1) 1 6).toNat a2) 2 2)) 2 3)) 8 ((jup (jup (jup (jup h 4 (h 1 6).toNat a1) 5 ((jup h 4 (h 1 6).toNat a1) 1 6).toNat a2) 6 ((jup (jup h 4 (h 1 6).toNat a1) 5 ((jup h 4 (h 1 6).toNat a1) 1 6).toNat a2) 1 6).toNat ((jup (jup h 4 (h 1 6).toNat a1) 5 ((jup h 4 (h 1 6).toNat a1) 1 6).toNat a2) 2 2)) 7 ((jup (jup (jup h 4 (h 1 6).toNat a1) 5 ((jup h 4 (h 1 6).toNat a1) 1 6).toNat a2) 6 ((jup (jup h 4 (h 1 6).toNat a1) 5 ((jup h 4 (h 1 6).toNat a1) 1 6).toNat a2) 1 6).toNat ((jup (jup h 4 (h 1 6).toNat a1) 5 ((jup h 4 (h 1 6).toNat a1) 1 6).toNat a2) 2 2)) 1 6).toNat ((jup (jup (jup h 4 (h 1 6).toNat a1) 5 ((jup h 4 (h 1 6).toNat a1) 1 6).toNat a2) 6 ((jup (jup h 4 (h 1 6).toNat a1) 5 ((jup h 4 (h 1 6).toNat a1) 1 6).toNat a2) 1 6).toNat ((jup (jup h 4 (h 1 6).toNat a1) 5 ((jup h 4 (h 1 6).toNat a1) 1 6).toNat a2) 2 2)) 2 3)) 1 6).toNat ((jup (jup (jup (jup h 4 (h 1 6).toNat a1) 5 ((jup h 4 (h 1 6).toNat a1) 1 6).toNat a2) 6 ((jup (jup h 4 (h 1 6).toNat a1) 5 ((jup h 4 (h 1 6).toNat a1) 1 6).toNat a2) 1 6).toNat ((jup (jup h 4 (h 1 6).toNat a1) 5 ((jup h 4 (h 1 6).toNat a1) 1 6).toNat a2) 2 2)) 7 ((jup (jup (jup h 4 (h 1 6).toNat a1) 5 ((jup h 4 (h 1 6).toNat a1) 1 6).toNat a2) 6 ((jup (jup h 4 (h 1 6).toNat a1) 5 ((jup h 4 (h 1 6).toNat a1) 1 6).toNat a2) 1 6).toNat ((jup (jup h 4 (h 1 6).toNat a1) 5 ((jup h 4 (h 1 6).toNat a1) 1 6).toNat a2) 2 2)) 1 6).toNat ((jup (jup (jup h 4 (h 1 6).toNat a1) 5 ((jup h 4 (h 1 6).toNat a1) 1 6).toNat a2) 6 ((jup (jup h 4 (h 1 6).toNat a1) 5 ((jup h 4 (h 1 6).toNat a1) 1 6).toNat a2) 1 6).toNat ((jup (jup h 4 (h 1 6).toNat a1) 5 ((jup h 4 (h 1 6).toNat a1) 1 6).toNat a2) 2 2)) 2 3)) 2 4)) 1 6) 1)))))))
set_option maxRecDepth 100000 in
set_option maxHeartbeats 4000000 in
theorem C_Gm_remember {E : jE} {h : jH} {a1 : Int} {a2 : Int} {res : jH} (hv : f_Gm_remember h a1 a2 = some res) : jC E M_Gm_remember [(2, ((1 : Nat) : Int)), (0, a1), (0, a2)] h none res := by
  refine jC.of ok_Gm_remember.1 (by rw [jlg]; exact Nat.le_of_ble_eq_true rfl) ?_
  show jG E _ 0 [(0, (2, ((1 : Nat) : Int))), (1, (0, a1)), (2, (0, a2))] [] h _ _
  unfold f_Gm_remember at hv
  refine jG.blk (st_Gm_remember) 5 (pc1 := 9) (L1 := [(0, (2, ((1 : Nat) : Int))), (1, (0, a1)), (2, (0, a2))]) (st1 := [(0, a1), (0, h 1 6), (2, ((4 : Nat) : Int))]) (h1 := h) rfl ?_
  obtain ⟨hg, hv⟩ := jgd_some hv
  refine jT.iast (a := 4) (st_Gm_remember) rfl rfl (by decide) hg.1 hg.2 ?_
  refine jG.blk (st_Gm_remember) 5 (pc1 := 19) (L1 := [(0, (2, ((1 : Nat) : Int))), (1, (0, a1)), (2, (0, a2))]) (st1 := [(0, a2), (0, (jup h 4 (h 1 6).toNat a1) 1 6), (2, ((5 : Nat) : Int))]) (h1 := jup h 4 (h 1 6).toNat a1) rfl ?_
  obtain ⟨hg, hv⟩ := jgd_some hv
  refine jT.iast (a := 5) (st_Gm_remember) rfl rfl (by decide) hg.1 hg.2 ?_
  refine jG.blk (st_Gm_remember) 7 (pc1 := 35) (L1 := [(0, (2, ((1 : Nat) : Int))), (1, (0, a1)), (2, (0, a2))]) (st1 := [(0, (jup (jup h 4 (h 1 6).toNat a1) 5 ((jup h 4 (h 1 6).toNat a1) 1 6).toNat a2) 2 2), (0, (jup (jup h 4 (h 1 6).toNat a1) 5 ((jup h 4 (h 1 6).toNat a1) 1 6).toNat a2) 1 6), (2, ((6 : Nat) : Int))]) (h1 := jup (jup h 4 (h 1 6).toNat a1) 5 ((jup h 4 (h 1 6).toNat a1) 1 6).toNat a2) rfl ?_
  obtain ⟨hg, hv⟩ := jgd_some hv
  refine jT.iast (a := 6) (st_Gm_remember) rfl rfl (by decide) hg.1 hg.2 ?_
  refine jG.blk (st_Gm_remember) 7 (pc1 := 51) (L1 := [(0, (2, ((1 : Nat) : Int))), (1, (0, a1)), (2, (0, a2))]) (st1 := [(0, (jup (jup (jup h 4 (h 1 6).toNat a1) 5 ((jup h 4 (h 1 6).toNat a1) 1 6).toNat a2) 6 ((jup (jup h 4 (h 1 6).toNat a1) 5 ((jup h 4 (h 1 6).toNat a1) 1 6).toNat a2) 1 6).toNat ((jup (jup h 4 (h 1 6).toNat a1) 5 ((jup h 4 (h 1 6).toNat a1) 1 6).toNat a2) 2 2)) 2 3), (0, (jup (jup (jup h 4 (h 1 6).toNat a1) 5 ((jup h 4 (h 1 6).toNat a1) 1 6).toNat a2) 6 ((jup (jup h 4 (h 1 6).toNat a1) 5 ((jup h 4 (h 1 6).toNat a1) 1 6).toNat a2) 1 6).toNat ((jup (jup h 4 (h 1 6).toNat a1) 5 ((jup h 4 (h 1 6).toNat a1) 1 6).toNat a2) 2 2)) 1 6), (2, ((7 : Nat) : Int))]) (h1 := jup (jup (jup h 4 (h 1 6).toNat a1) 5 ((jup h 4 (h 1 6).toNat a1) 1 6).toNat a2) 6 ((jup (jup h 4 (h 1 6).toNat a1) 5 ((jup h 4 (h 1 6).toNat a1) 1 6).toNat a2) 1 6).toNat ((jup (jup h 4 (h 1 6).toNat a1) 5 ((jup h 4 (h 1 6).toNat a1) 1 6).toNat a2) 2 2)) rfl ?_
  obtain ⟨hg, hv⟩ := jgd_some hv
  refine jT.iast (a := 7) (st_Gm_remember) rfl rfl (by decide) hg.1 hg.2 ?_
  refine jG.blk (st_Gm_remember) 7 (pc1 := 67) (L1 := [(0, (2, ((1 : Nat) : Int))), (1, (0, a1)), (2, (0, a2))]) (st1 := [(0, (jup (jup (jup (jup h 4 (h 1 6).toNat a1) 5 ((jup h 4 (h 1 6).toNat a1) 1 6).toNat a2) 6 ((jup (jup h 4 (h 1 6).toNat a1) 5 ((jup h 4 (h 1 6).toNat a1) 1 6).toNat a2) 1 6).toNat ((jup (jup h 4 (h 1 6).toNat a1) 5 ((jup h 4 (h 1 6).toNat a1) 1 6).toNat a2) 2 2)) 7 ((jup (jup (jup h 4 (h 1 6).toNat a1) 5 ((jup h 4 (h 1 6).toNat a1) 1 6).toNat a2) 6 ((jup (jup h 4 (h 1 6).toNat a1) 5 ((jup h 4 (h 1 6).toNat a1) 1 6).toNat a2) 1 6).toNat ((jup (jup h 4 (h 1 6).toNat a1) 5 ((jup h 4 (h 1 6).toNat a1) 1 6).toNat a2) 2 2)) 1 6).toNat ((jup (jup (jup h 4 (h 1 6).toNat a1) 5 ((jup h 4 (h 1 6).toNat a1) 1 6).toNat a2) 6 ((jup (jup h 4 (h 1 6).toNat a1) 5 ((jup h 4 (h 1 6).toNat a1) 1 6).toNat a2) 1 6).toNat ((jup (jup h 4 (h 1 6).toNat a1) 5 ((jup h 4 (h 1 6).toNat a1) 1 6).toNat a2) 2 2)) 2 3)) 2 4), (0, (jup (jup (jup (jup h 4 (h 1 6).toNat a1) 5 ((jup h 4 (h 1 6).toNat a1) 1 6).toNat a2) 6 ((jup (jup h 4 (h 1 6).toNat a1) 5 ((jup h 4 (h 1 6).toNat a1) 1 6).toNat a2) 1 6).toNat ((jup (jup h 4 (h 1 6).toNat a1) 5 ((jup h 4 (h 1 6).toNat a1) 1 6).toNat a2) 2 2)) 7 ((jup (jup (jup h 4 (h 1 6).toNat a1) 5 ((jup h 4 (h 1 6).toNat a1) 1 6).toNat a2) 6 ((jup (jup h 4 (h 1 6).toNat a1) 5 ((jup h 4 (h 1 6).toNat a1) 1 6).toNat a2) 1 6).toNat ((jup (jup h 4 (h 1 6).toNat a1) 5 ((jup h 4 (h 1 6).toNat a1) 1 6).toNat a2) 2 2)) 1 6).toNat ((jup (jup (jup h 4 (h 1 6).toNat a1) 5 ((jup h 4 (h 1 6).toNat a1) 1 6).toNat a2) 6 ((jup (jup h 4 (h 1 6).toNat a1) 5 ((jup h 4 (h 1 6).toNat a1) 1 6).toNat a2) 1 6).toNat ((jup (jup h 4 (h 1 6).toNat a1) 5 ((jup h 4 (h 1 6).toNat a1) 1 6).toNat a2) 2 2)) 2 3)) 1 6), (2, ((8 : Nat) : Int))]) (h1 := jup (jup (jup (jup h 4 (h 1 6).toNat a1) 5 ((jup h 4 (h 1 6).toNat a1) 1 6).toNat a2) 6 ((jup (jup h 4 (h 1 6).toNat a1) 5 ((jup h 4 (h 1 6).toNat a1) 1 6).toNat a2) 1 6).toNat ((jup (jup h 4 (h 1 6).toNat a1) 5 ((jup h 4 (h 1 6).toNat a1) 1 6).toNat a2) 2 2)) 7 ((jup (jup (jup h 4 (h 1 6).toNat a1) 5 ((jup h 4 (h 1 6).toNat a1) 1 6).toNat a2) 6 ((jup (jup h 4 (h 1 6).toNat a1) 5 ((jup h 4 (h 1 6).toNat a1) 1 6).toNat a2) 1 6).toNat ((jup (jup h 4 (h 1 6).toNat a1) 5 ((jup h 4 (h 1 6).toNat a1) 1 6).toNat a2) 2 2)) 1 6).toNat ((jup (jup (jup h 4 (h 1 6).toNat a1) 5 ((jup h 4 (h 1 6).toNat a1) 1 6).toNat a2) 6 ((jup (jup h 4 (h 1 6).toNat a1) 5 ((jup h 4 (h 1 6).toNat a1) 1 6).toNat a2) 1 6).toNat ((jup (jup h 4 (h 1 6).toNat a1) 5 ((jup h 4 (h 1 6).toNat a1) 1 6).toNat a2) 2 2)) 2 3)) rfl ?_
  obtain ⟨hg, hv⟩ := jgd_some hv
  refine jT.iast (a := 8) (st_Gm_remember) rfl rfl (by decide) hg.1 hg.2 ?_
  refine jG.blk (st_Gm_remember) 6 (pc1 := 78) (L1 := [(0, (2, ((1 : Nat) : Int))), (1, (0, a1)), (2, (0, a2))]) (st1 := []) (h1 := jup (jup (jup (jup (jup (jup h 4 (h 1 6).toNat a1) 5 ((jup h 4 (h 1 6).toNat a1) 1 6).toNat a2) 6 ((jup (jup h 4 (h 1 6).toNat a1) 5 ((jup h 4 (h 1 6).toNat a1) 1 6).toNat a2) 1 6).toNat ((jup (jup h 4 (h 1 6).toNat a1) 5 ((jup h 4 (h 1 6).toNat a1) 1 6).toNat a2) 2 2)) 7 ((jup (jup (jup h 4 (h 1 6).toNat a1) 5 ((jup h 4 (h 1 6).toNat a1) 1 6).toNat a2) 6 ((jup (jup h 4 (h 1 6).toNat a1) 5 ((jup h 4 (h 1 6).toNat a1) 1 6).toNat a2) 1 6).toNat ((jup (jup h 4 (h 1 6).toNat a1) 5 ((jup h 4 (h 1 6).toNat a1) 1 6).toNat a2) 2 2)) 1 6).toNat ((jup (jup (jup h 4 (h 1 6).toNat a1) 5 ((jup h 4 (h 1 6).toNat a1) 1 6).toNat a2) 6 ((jup (jup h 4 (h 1 6).toNat a1) 5 ((jup h 4 (h 1 6).toNat a1) 1 6).toNat a2) 1 6).toNat ((jup (jup h 4 (h 1 6).toNat a1) 5 ((jup h 4 (h 1 6).toNat a1) 1 6).toNat a2) 2 2)) 2 3)) 8 ((jup (jup (jup (jup h 4 (h 1 6).toNat a1) 5 ((jup h 4 (h 1 6).toNat a1) 1 6).toNat a2) 6 ((jup (jup h 4 (h 1 6).toNat a1) 5 ((jup h 4 (h 1 6).toNat a1) 1 6).toNat a2) 1 6).toNat ((jup (jup h 4 (h 1 6).toNat a1) 5 ((jup h 4 (h 1 6).toNat a1) 1 6).toNat a2) 2 2)) 7 ((jup (jup (jup h 4 (h 1 6).toNat a1) 5 ((jup h 4 (h 1 6).toNat a1) 1 6).toNat a2) 6 ((jup (jup h 4 (h 1 6).toNat a1) 5 ((jup h 4 (h 1 6).toNat a1) 1 6).toNat a2) 1 6).toNat ((jup (jup h 4 (h 1 6).toNat a1) 5 ((jup h 4 (h 1 6).toNat a1) 1 6).toNat a2) 2 2)) 1 6).toNat ((jup (jup (jup h 4 (h 1 6).toNat a1) 5 ((jup h 4 (h 1 6).toNat a1) 1 6).toNat a2) 6 ((jup (jup h 4 (h 1 6).toNat a1) 5 ((jup h 4 (h 1 6).toNat a1) 1 6).toNat a2) 1 6).toNat ((jup (jup h 4 (h 1 6).toNat a1) 5 ((jup h 4 (h 1 6).toNat a1) 1 6).toNat a2) 2 2)) 2 3)) 1 6).toNat ((jup (jup (jup (jup h 4 (h 1 6).toNat a1) 5 ((jup h 4 (h 1 6).toNat a1) 1 6).toNat a2) 6 ((jup (jup h 4 (h 1 6).toNat a1) 5 ((jup h 4 (h 1 6).toNat a1) 1 6).toNat a2) 1 6).toNat ((jup (jup h 4 (h 1 6).toNat a1) 5 ((jup h 4 (h 1 6).toNat a1) 1 6).toNat a2) 2 2)) 7 ((jup (jup (jup h 4 (h 1 6).toNat a1) 5 ((jup h 4 (h 1 6).toNat a1) 1 6).toNat a2) 6 ((jup (jup h 4 (h 1 6).toNat a1) 5 ((jup h 4 (h 1 6).toNat a1) 1 6).toNat a2) 1 6).toNat ((jup (jup h 4 (h 1 6).toNat a1) 5 ((jup h 4 (h 1 6).toNat a1) 1 6).toNat a2) 2 2)) 1 6).toNat ((jup (jup (jup h 4 (h 1 6).toNat a1) 5 ((jup h 4 (h 1 6).toNat a1) 1 6).toNat a2) 6 ((jup (jup h 4 (h 1 6).toNat a1) 5 ((jup h 4 (h 1 6).toNat a1) 1 6).toNat a2) 1 6).toNat ((jup (jup h 4 (h 1 6).toNat a1) 5 ((jup h 4 (h 1 6).toNat a1) 1 6).toNat a2) 2 2)) 2 3)) 2 4)) 1 6 (jadd ((jup (jup (jup (jup (jup h 4 (h 1 6).toNat a1) 5 ((jup h 4 (h 1 6).toNat a1) 1 6).toNat a2) 6 ((jup (jup h 4 (h 1 6).toNat a1) 5 ((jup h 4 (h 1 6).toNat a1) 1 6).toNat a2) 1 6).toNat ((jup (jup h 4 (h 1 6).toNat a1) 5 ((jup h 4 (h 1 6).toNat a1) 1 6).toNat a2) 2 2)) 7 ((jup (jup (jup h 4 (h 1 6).toNat a1) 5 ((jup h 4 (h 1 6).toNat a1) 1 6).toNat a2) 6 ((jup (jup h 4 (h 1 6).toNat a1) 5 ((jup h 4 (h 1 6).toNat a1) 1 6).toNat a2) 1 6).toNat ((jup (jup h 4 (h 1 6).toNat a1) 5 ((jup h 4 (h 1 6).toNat a1) 1 6).toNat a2) 2 2)) 1 6).toNat ((jup (jup (jup h 4 (h 1 6).toNat a1) 5 ((jup h 4 (h 1 6).toNat a1) 1 6).toNat a2) 6 ((jup (jup h 4 (h 1 6).toNat a1) 5 ((jup h 4 (h 1 6).toNat a1) 1 6).toNat a2) 1 6).toNat ((jup (jup h 4 (h 1 6).toNat a1) 5 ((jup h 4 (h 1 6).toNat a1) 1 6).toNat a2) 2 2)) 2 3)) 8 ((jup (jup (jup (jup h 4 (h 1 6).toNat a1) 5 ((jup h 4 (h 1 6).toNat a1) 1 6).toNat a2) 6 ((jup (jup h 4 (h 1 6).toNat a1) 5 ((jup h 4 (h 1 6).toNat a1) 1 6).toNat a2) 1 6).toNat ((jup (jup h 4 (h 1 6).toNat a1) 5 ((jup h 4 (h 1 6).toNat a1) 1 6).toNat a2) 2 2)) 7 ((jup (jup (jup h 4 (h 1 6).toNat a1) 5 ((jup h 4 (h 1 6).toNat a1) 1 6).toNat a2) 6 ((jup (jup h 4 (h 1 6).toNat a1) 5 ((jup h 4 (h 1 6).toNat a1) 1 6).toNat a2) 1 6).toNat ((jup (jup h 4 (h 1 6).toNat a1) 5 ((jup h 4 (h 1 6).toNat a1) 1 6).toNat a2) 2 2)) 1 6).toNat ((jup (jup (jup h 4 (h 1 6).toNat a1) 5 ((jup h 4 (h 1 6).toNat a1) 1 6).toNat a2) 6 ((jup (jup h 4 (h 1 6).toNat a1) 5 ((jup h 4 (h 1 6).toNat a1) 1 6).toNat a2) 1 6).toNat ((jup (jup h 4 (h 1 6).toNat a1) 5 ((jup h 4 (h 1 6).toNat a1) 1 6).toNat a2) 2 2)) 2 3)) 1 6).toNat ((jup (jup (jup (jup h 4 (h 1 6).toNat a1) 5 ((jup h 4 (h 1 6).toNat a1) 1 6).toNat a2) 6 ((jup (jup h 4 (h 1 6).toNat a1) 5 ((jup h 4 (h 1 6).toNat a1) 1 6).toNat a2) 1 6).toNat ((jup (jup h 4 (h 1 6).toNat a1) 5 ((jup h 4 (h 1 6).toNat a1) 1 6).toNat a2) 2 2)) 7 ((jup (jup (jup h 4 (h 1 6).toNat a1) 5 ((jup h 4 (h 1 6).toNat a1) 1 6).toNat a2) 6 ((jup (jup h 4 (h 1 6).toNat a1) 5 ((jup h 4 (h 1 6).toNat a1) 1 6).toNat a2) 1 6).toNat ((jup (jup h 4 (h 1 6).toNat a1) 5 ((jup h 4 (h 1 6).toNat a1) 1 6).toNat a2) 2 2)) 1 6).toNat ((jup (jup (jup h 4 (h 1 6).toNat a1) 5 ((jup h 4 (h 1 6).toNat a1) 1 6).toNat a2) 6 ((jup (jup h 4 (h 1 6).toNat a1) 5 ((jup h 4 (h 1 6).toNat a1) 1 6).toNat a2) 1 6).toNat ((jup (jup h 4 (h 1 6).toNat a1) 5 ((jup h 4 (h 1 6).toNat a1) 1 6).toNat a2) 2 2)) 2 3)) 2 4)) 1 6) 1)) rfl ?_
  cases hv
  exact jT.vret (st_Gm_remember) rfl trivial
def f_Gm_isCastling (h : jH) (a0 : Int) (a1 : Int) (a2 : Int) : Option (Int) := (f_X_kindOf h a0).bind fun v1 => some (if v1 = 6 then if (if 0 ≤ (jsub a2 a1) then (jsub a2 a1) else jsub 0 (jsub a2 a1)) = 2 then 1 else 0 else 0)
set_option maxRecDepth 100000 in
set_option maxHeartbeats 4000000 in
theorem C_Gm_isCastling {E : jE} {h : jH} {a0 : Int} {a1 : Int} {a2 : Int} {res : Int} (hv : f_Gm_isCastling h a0 a1 a2 = some res) : jC E M_Gm_isCastling [(0, a0), (0, a1), (0, a2)] h (some (0, res)) h := by
  refine jC.of ok_Gm_isCastling.1 (by rw [jlg]; exact Nat.le_of_ble_eq_true rfl) ?_
  show jG E _ 0 [(0, (0, a0)), (1, (0, a1)), (2, (0, a2))] [] h _ _
  unfold f_Gm_isCastling at hv
  refine jG.blk (st_Gm_isCastling) 1 (pc1 := 1) (L1 := [(0, (0, a0)), (1, (0, a1)), (2, (0, a2))]) (st1 := [(0, a0)]) (h1 := h) rfl ?_
  obtain ⟨v1, hq, hv⟩ := Option.bind_eq_some_iff.mp hv
  refine jT.cSN (M1 := M_X_kindOf) [(0, a0)] [] (st_Gm_isCastling) rfl rfl ok_X_kindOf rfl (Nat.le_of_ble_eq_true rfl) (Nat.le_of_ble_eq_true rfl) rfl (Nat.le_of_ble_eq_true rfl) (C_X_kindOf hq) ?_
  show jG E _ 4 [(0, (0, a0)), (1, (0, a1)), (2, (0, a2))] [(0, v1)] h _ _
  refine jG.blk (st_Gm_isCastling) 1 (pc1 := 6) (L1 := [(0, (0, a0)), (1, (0, a1)), (2, (0, a2))]) (st1 := [(0, 6), (0, v1)]) (h1 := h) rfl ?_
  refine jT.if2 (st_Gm_isCastling) rfl (tgt := 23) (by decide) (fun hc => ?_) (fun hc => ?_)
  · have hc : ¬ (v1 = 6) := hc
    try rw [if_neg hc] at hv
    refine jG.blk (st_Gm_isCastling) 1 (pc1 := 24) (L1 := [(0, (0, a0)), (1, (0, a1)), (2, (0, a2))]) (st1 := [(0, 0)]) (h1 := h) rfl ?_
    cases hv
    exact jT.iret (st_Gm_isCastling) rfl (Or.inl rfl)
  · have hc : v1 = 6 := Decidable.not_not.mp hc
    try rw [if_pos hc] at hv
    refine jG.blk (st_Gm_isCastling) 3 (pc1 := 12) (L1 := [(0, (0, a0)), (1, (0, a1)), (2, (0, a2))]) (st1 := [(0, jsub a2 a1)]) (h1 := h) rfl ?_
    refine jT.mabs (a := (jsub a2 a1)) (rest := []) (st_Gm_isCastling) rfl (Nat.le_of_ble_eq_true rfl) (Nat.le_of_ble_eq_true rfl) (Nat.le_of_ble_eq_true rfl) ?_
    refine jG.blk (st_Gm_isCastling) 1 (pc1 := 16) (L1 := [(0, (0, a0)), (1, (0, a1)), (2, (0, a2))]) (st1 := [(0, 2), (0, if 0 ≤ (jsub a2 a1) then (jsub a2 a1) else jsub 0 (jsub a2 a1))]) (h1 := h) rfl ?_
    refine jT.if2 (st_Gm_isCastling) rfl (tgt := 23) (by decide) (fun hc => ?_) (fun hc => ?_)
    · have hc : ¬ ((if 0 ≤ (jsub a2 a1) then (jsub a2 a1) else jsub 0 (jsub a2 a1)) = 2) := hc
      try rw [if_neg hc] at hv
      refine jG.blk (st_Gm_isCastling) 1 (pc1 := 24) (L1 := [(0, (0, a0)), (1, (0, a1)), (2, (0, a2))]) (st1 := [(0, 0)]) (h1 := h) rfl ?_
      cases hv
      exact jT.iret (st_Gm_isCastling) rfl (Or.inl rfl)
    · have hc : (if 0 ≤ (jsub a2 a1) then (jsub a2 a1) else jsub 0 (jsub a2 a1)) = 2 := Decidable.not_not.mp hc
      try rw [if_pos hc] at hv
      refine jG.blk (st_Gm_isCastling) 1 (pc1 := 20) (L1 := [(0, (0, a0)), (1, (0, a1)), (2, (0, a2))]) (st1 := [(0, 1)]) (h1 := h) rfl ?_
      refine jT.goto (st_Gm_isCastling) rfl (tgt := 24) (by decide) ?_
      cases hv
      exact jT.iret (st_Gm_isCastling) rfl (Or.inr rfl)
def f_Gm_castledRookFrom_j11 (h : jH) (l1 : Int) (s2 : Int) : Option (Int) := (f_X_squareAt h s2 (jshr l1 3)).bind fun v3 => some v3
def f_Gm_castledRookFrom (h : jH) (a0 : Int) (a1 : Int) : Option (Int) := f_Gm_castledRookFrom_j11 h a0 (if a1 ≤ a0 then 0 else 7)
set_option maxRecDepth 100000 in
set_option maxHeartbeats 4000000 in
theorem f_Gm_castledRookFrom_j11_ok (E : jE) {h : jH} {l1 : Int} {s2 : Int} {res : Int} (hv : f_Gm_castledRookFrom_j11 h l1 s2 = some res) : jG E M_Gm_castledRookFrom 11 [(0, (0, l1))] [(0, s2)] h (some (0, res)) h := by
  unfold f_Gm_castledRookFrom_j11 at hv
  refine jG.blk (st_Gm_castledRookFrom) 3 (pc1 := 14) (L1 := [(0, (0, l1))]) (st1 := [(0, jshr l1 3), (0, s2)]) (h1 := h) rfl ?_
  obtain ⟨v3, hq, hv⟩ := Option.bind_eq_some_iff.mp hv
  refine jT.cSN (M1 := M_X_squareAt) [(0, s2), (0, jshr l1 3)] [] (st_Gm_castledRookFrom) rfl rfl ok_X_squareAt rfl (Nat.le_of_ble_eq_true rfl) (Nat.le_of_ble_eq_true rfl) rfl (Nat.le_of_ble_eq_true rfl) (C_X_squareAt hq) ?_
  show jG E _ 17 [(0, (0, l1))] [(0, v3)] h _ _
  cases hv
  exact jT.iret (st_Gm_castledRookFrom) rfl trivial
set_option maxRecDepth 100000 in
set_option maxHeartbeats 4000000 in
theorem C_Gm_castledRookFrom {E : jE} {h : jH} {a0 : Int} {a1 : Int} {res : Int} (hv : f_Gm_castledRookFrom h a0 a1 = some res) : jC E M_Gm_castledRookFrom [(0, a0), (0, a1)] h (some (0, res)) h := by
  refine jC.of ok_Gm_castledRookFrom.1 (by rw [jlg]; exact Nat.le_of_ble_eq_true rfl) ?_
  show jG E _ 0 [(0, (0, a0)), (1, (0, a1))] [] h _ _
  unfold f_Gm_castledRookFrom at hv
  refine jG.blk (st_Gm_castledRookFrom) 2 (pc1 := 2) (L1 := [(0, (0, a0)), (1, (0, a1))]) (st1 := [(0, a0), (0, a1)]) (h1 := h) rfl ?_
  refine jT.if2 (st_Gm_castledRookFrom) rfl (tgt := 10) (by decide) (fun hc => ?_) (fun hc => ?_)
  · have hc : a1 ≤ a0 := hc
    try rw [if_pos hc] at hv
    refine jG.blk (st_Gm_castledRookFrom) 1 (pc1 := 11) (L1 := [(0, (0, a0)), (1, (0, a1))]) (st1 := [(0, 0)]) (h1 := h) rfl ?_
    refine jG.subp [0] (L1 := [(0, (0, a0))]) rfl ?_
    exact f_Gm_castledRookFrom_j11_ok E hv
  · have hc : ¬ (a1 ≤ a0) := hc
    try rw [if_neg hc] at hv
    refine jG.blk (st_Gm_castledRookFrom) 1 (pc1 := 7) (L1 := [(0, (0, a0)), (1, (0, a1))]) (st1 := [(0, 7)]) (h1 := h) rfl ?_
    refine jT.goto (st_Gm_castledRookFrom) rfl (tgt := 11) (by decide) ?_
    refine jG.subp [0] (L1 := [(0, (0, a0))]) rfl ?_
    exact f_Gm_castledRookFrom_j11_ok E hv
def f_Gm_shiftPiece (h : jH) (a1 : Int) (a2 : Int) : Option (jH) := jgd (0 ≤ a1 ∧ a1 < 64) (jgd (0 ≤ a2 ∧ a2 < 64) (jgd (0 ≤ a1 ∧ a1 < 64) (some (jup (jup h 3 a2.toNat (h 3 a1.toNat)) 3 a1.toNat 0))))
set_option maxRecDepth 100000 in
set_option maxHeartbeats 4000000 in
theorem C_Gm_shiftPiece {E : jE} {h : jH} {a1 : Int} {a2 : Int} {res : jH} (hv : f_Gm_shiftPiece h a1 a2 = some res) : jC E M_Gm_shiftPiece [(2, ((1 : Nat) : Int)), (0, a1), (0, a2)] h none res := by
  refine jC.of ok_Gm_shiftPiece.1 (by rw [jlg]; exact Nat.le_of_ble_eq_true rfl) ?_
  show jG E _ 0 [(0, (2, ((1 : Nat) : Int))), (1, (0, a1)), (2, (0, a2))] [] h _ _
  unfold f_Gm_shiftPiece at hv
  refine jG.blk (st_Gm_shiftPiece) 8 (pc1 := 16) (L1 := [(0, (2, ((1 : Nat) : Int))), (1, (0, a1)), (2, (0, a2))]) (st1 := [(0, a1), (2, ((3 : Nat) : Int)), (0, a2), (2, ((3 : Nat) : Int))]) (h1 := h) rfl ?_
  obtain ⟨hg, hv⟩ := jgd_some hv
  refine jT.iald (a := 3) (st_Gm_shiftPiece) rfl rfl (by decide) hg.1 hg.2 ?_
  obtain ⟨hg, hv⟩ := jgd_some hv
  refine jT.iast (a := 3) (st_Gm_shiftPiece) rfl rfl (by decide) hg.1 hg.2 ?_
  refine jG.blk (st_Gm_shiftPiece) 5 (pc1 := 27) (L1 := [(0, (2, ((1 : Nat) : Int))), (1, (0, a1)), (2, (0, a2))]) (st1 := [(0, 0), (0, a1), (2, ((3 : Nat) : Int))]) (h1 := jup h 3 a2.toNat (h 3 a1.toNat)) rfl ?_
  obtain ⟨hg, hv⟩ := jgd_some hv
  refine jT.iast (a := 3) (st_Gm_shiftPiece) rfl rfl (by decide) hg.1 hg.2 ?_
  cases hv
  exact jT.vret (st_Gm_shiftPiece) rfl trivial
def f_Gm_rightsAt_j33_11 (rc : Int → Int → Option (Int)) (k : Int → Int → Option (Int)) (h : jH) (x6 : Int) (x7 : Int) (l9 : Int) (l10 : Int) : Option (Int) := (f_X_rightOf h x7 l10).bind fun v11 => rc (jor l9 v11) (jadd l10 1)
def f_Gm_rightsAt_lp11 (h : jH) (x6 : Int) (x7 : Int) (k : Int → Int → Option (Int)) : Nat → Int → Int → Option (Int)
  | 0, _, _ => none
  | n + 1, l4, l5 => if 2 ≤ l5 then k l4 l5 else (f_X_kingHome h x7).bind fun v8 => if x6 = v8 then f_Gm_rightsAt_j33_11 (f_Gm_rightsAt_lp11 h x6 x7 k n) k h x6 x7 l4 l5 else (f_X_rookHome h x7 l5).bind fun v12 => if x6 = v12 then f_Gm_rightsAt_j33_11 (f_Gm_rightsAt_lp11 h x6 x7 k n) k h x6 x7 l4 l5 else f_Gm_rightsAt_lp11 h x6 x7 k n l4 (jadd l5 1)
def f_Gm_rightsAt_lp4 (h : jH) (x3 : Int) (k : Int → Int → Option (Int)) : Nat → Int → Int → Option (Int)
  | 0, _, _ => none
  | n + 1, l1, l2 => if 1 < l2 then k l1 l2 else f_Gm_rightsAt_lp11 h x3 l2 (fun l13 l14 => f_Gm_rightsAt_lp4 h x3 k n l13 (jadd l2 1)) 1000 l1 0
def f_Gm_rightsAt (h : jH) (a0 : Int) : Option (Int) := f_Gm_rightsAt_lp4 h a0 (fun l15 l16 => some l15) 1000 0 0
set_option maxRecDepth 100000 in
set_option maxHeartbeats 4000000 in
theorem f_Gm_rightsAt_j33_11_ok (E : jE) {rc : Int → Int → Option (Int)} {k : Int → Int → Option (Int)} {h : jH} {x6 : Int} {x7 : Int} (hrc : ∀ (l4 : Int) (l5 : Int) (res : Int), rc l4 l5 = some res → jG E M_Gm_rightsAt 11 [(0, (0, x6)), (1, (0, l4)), (2, (0, x7)), (3, (0, l5))] [] h (some (0, res)) h) (hk : ∀ (l4 : Int) (l5 : Int) (res : Int), k l4 l5 = some res → jG E M_Gm_rightsAt 47 [(0, (0, x6)), (1, (0, l4)), (2, (0, x7))] [] h (some (0, res)) h) {l9 : Int} {l10 : Int} {res : Int} (hv : f_Gm_rightsAt_j33_11 rc k h x6 x7 l9 l10 = some res) : jG E M_Gm_rightsAt 33 [(0, (0, x6)), (1, (0, l9)), (2, (0, x7)), (3, (0, l10))] [] h (some (0, res)) h := by
  unfold f_Gm_rightsAt_j33_11 at hv
  refine jG.blk (st_Gm_rightsAt) 3 (pc1 := 36) (L1 := [(0, (0, x6)), (1, (0, l9)), (2, (0, x7)), (3, (0, l10))]) (st1 := [(0, l10), (0, x7), (0, l9)]) (h1 := h) rfl ?_
  obtain ⟨v11, hq, hv⟩ := Option.bind_eq_some_iff.mp hv
  refine jT.cSN (M1 := M_X_rightOf) [(0, x7), (0, l10)] [(0, l9)] (st_Gm_rightsAt) rfl rfl ok_X_rightOf rfl (Nat.le_of_ble_eq_true rfl) (Nat.le_of_ble_eq_true rfl) rfl (Nat.le_of_ble_eq_true rfl) (C_X_rightOf hq) ?_
  show jG E _ 39 [(0, (0, x6)), (1, (0, l9)), (2, (0, x7)), (3, (0, l10))] [(0, v11), (0, l9)] h _ _
  refine jG.blk (st_Gm_rightsAt) 3 (pc1 := 44) (L1 := [(3, (0, jadd l10 1)), (1, (0, jor l9 v11)), (0, (0, x6)), (2, (0, x7))]) (st1 := []) (h1 := h) rfl ?_
  refine jT.goto (st_Gm_rightsAt) rfl (tgt := 11) (by decide) ?_
  refine jG.subp [2, 1, 3, 0] (L1 := [(0, (0, x6)), (1, (0, jor l9 v11)), (2, (0, x7)), (3, (0, jadd l10 1))]) rfl ?_
  exact hrc _ _ _ hv
set_option maxRecDepth 100000 in
set_option maxHeartbeats 4000000 in
theorem f_Gm_rightsAt_lp11_ok (E : jE) {h : jH} {x6 : Int} {x7 : Int} {k : Int → Int → Option (Int)} (hk : ∀ (l4 : Int) (l5 : Int) (res : Int), k l4 l5 = some res → jG E M_Gm_rightsAt 47 [(0, (0, x6)), (1, (0, l4)), (2, (0, x7))] [] h (some (0, res)) h) : ∀ (n : Nat) (l4 : Int) (l5 : Int) (res : Int), f_Gm_rightsAt_lp11 h x6 x7 k n l4 l5 = some res → jG E M_Gm_rightsAt 11 [(0, (0, x6)), (1, (0, l4)), (2, (0, x7)), (3, (0, l5))] [] h (some (0, res)) h := by
  intro n
  induction n with
  | zero => intro l4 l5 res hv; cases hv
  | succ n ih =>
    intro l4 l5 res hv
    rw [f_Gm_rightsAt_lp11] at hv
    refine jG.blk (st_Gm_rightsAt) 2 (pc1 := 13) (L1 := [(0, (0, x6)), (1, (0, l4)), (2, (0, x7)), (3, (0, l5))]) (st1 := [(0, 2), (0, l5)]) (h1 := h) rfl ?_
    refine jT.if2 (st_Gm_rightsAt) rfl (tgt := 47) (by decide) (fun hc => ?_) (fun hc => ?_)
    · have hc : 2 ≤ l5 := hc
      try rw [if_pos hc] at hv
      refine jG.subp [0, 1, 2] (L1 := [(0, (0, x6)), (1, (0, l4)), (2, (0, x7))]) rfl ?_
      exact hk _ _ _ hv
    · have hc : ¬ (2 ≤ l5) := hc
      try rw [if_neg hc] at hv
      refine jG.blk (st_Gm_rightsAt) 2 (pc1 := 18) (L1 := [(0, (0, x6)), (1, (0, l4)), (2, (0, x7)), (3, (0, l5))]) (st1 := [(0, x7), (0, x6)]) (h1 := h) rfl ?_
      obtain ⟨v8, hq, hv⟩ := Option.bind_eq_some_iff.mp hv
      refine jT.cSN (M1 := M_X_kingHome) [(0, x7)] [(0, x6)] (st_Gm_rightsAt) rfl rfl ok_X_kingHome rfl (Nat.le_of_ble_eq_true rfl) (Nat.le_of_ble_eq_true rfl) rfl (Nat.le_of_ble_eq_true rfl) (C_X_kingHome hq) ?_
      show jG E _ 21 [(0, (0, x6)), (1, (0, l4)), (2, (0, x7)), (3, (0, l5))] [(0, v8), (0, x6)] h _ _
      refine jT.if2 (st_Gm_rightsAt) rfl (tgt := 33) (by decide) (fun hc => ?_) (fun hc => ?_)
      · have hc : x6 = v8 := hc
        try rw [if_pos hc] at hv
        exact f_Gm_rightsAt_j33_11_ok E ih hk hv
      · have hc : ¬ (x6 = v8) := hc
        try rw [if_neg hc] at hv
        refine jG.blk (st_Gm_rightsAt) 3 (pc1 := 27) (L1 := [(0, (0, x6)), (1, (0, l4)), (2, (0, x7)), (3, (0, l5))]) (st1 := [(0, l5), (0, x7), (0, x6)]) (h1 := h) rfl ?_
        obtain ⟨v12, hq, hv⟩ := Option.bind_eq_some_iff.mp hv
        refine jT.cSN (M1 := M_X_rookHome) [(0, x7), (0, l5)] [(0, x6)] (st_Gm_rightsAt) rfl rfl ok_X_rookHome rfl (Nat.le_of_ble_eq_true rfl) (Nat.le_of_ble_eq_true rfl) rfl (Nat.le_of_ble_eq_true rfl) (C_X_rookHome hq) ?_
        show jG E _ 30 [(0, (0, x6)), (1, (0, l4)), (2, (0, x7)), (3, (0, l5))] [(0, v12), (0, x6)] h _ _
        refine jT.if2 (st_Gm_rightsAt) rfl (tgt := 41) (by decide) (fun hc => ?_) (fun hc => ?_)
        · have hc : ¬ (x6 = v12) := hc
          try rw [if_neg hc] at hv
          refine jG.blk (st_Gm_rightsAt) 1 (pc1 := 44) (L1 := [(3, (0, jadd l5 1)), (0, (0, x6)), (1, (0, l4)), (2, (0, x7))]) (st1 := []) (h1 := h) rfl ?_
          refine jT.goto (st_Gm_rightsAt) rfl (tgt := 11) (by decide) ?_
          refine jG.subp [1, 2, 3, 0] (L1 := [(0, (0, x6)), (1, (0, l4)), (2, (0, x7)), (3, (0, jadd l5 1))]) rfl ?_
          exact ih _ _ _ hv
        · have hc : x6 = v12 := Decidable.not_not.mp hc
          try rw [if_pos hc] at hv
          exact f_Gm_rightsAt_j33_11_ok E ih hk hv
set_option maxRecDepth 100000 in
set_option maxHeartbeats 4000000 in
theorem f_Gm_rightsAt_lp4_ok (E : jE) {h : jH} {x3 : Int} {k : Int → Int → Option (Int)} (hk : ∀ (l1 : Int) (l2 : Int) (res : Int), k l1 l2 = some res → jG E M_Gm_rightsAt 53 [(1, (0, l1))] [] h (some (0, res)) h) : ∀ (n : Nat) (l1 : Int) (l2 : Int) (res : Int), f_Gm_rightsAt_lp4 h x3 k n l1 l2 = some res → jG E M_Gm_rightsAt 4 [(0, (0, x3)), (1, (0, l1)), (2, (0, l2))] [] h (some (0, res)) h := by
  intro n
  induction n with
  | zero => intro l1 l2 res hv; cases hv
  | succ n ih =>
    intro l1 l2 res hv
    rw [f_Gm_rightsAt_lp4] at hv
    refine jG.blk (st_Gm_rightsAt) 2 (pc1 := 6) (L1 := [(0, (0, x3)), (1, (0, l1)), (2, (0, l2))]) (st1 := [(0, 1), (0, l2)]) (h1 := h) rfl ?_
    refine jT.if2 (st_Gm_rightsAt) rfl (tgt := 53) (by decide) (fun hc => ?_) (fun hc => ?_)
    · have hc : 1 < l2 := hc
      try rw [if_pos hc] at hv
      refine jG.subp [1] (L1 := [(1, (0, l1))]) rfl ?_
      exact hk _ _ _ hv
    · have hc : ¬ (1 < l2) := hc
      try rw [if_neg hc] at hv
      refine jG.blk (st_Gm_rightsAt) 2 (pc1 := 11) (L1 := [(3, (0, 0)), (0, (0, x3)), (1, (0, l1)), (2, (0, l2))]) (st1 := []) (h1 := h) rfl ?_
      refine jG.subp [1, 2, 3, 0] (L1 := [(0, (0, x3)), (1, (0, l1)), (2, (0, l2)), (3, (0, 0))]) rfl ?_
      refine f_Gm_rightsAt_lp11_ok E (fun l13 l14 res hv => ?_) 1000 _ _ _ hv
      · refine jG.blk (st_Gm_rightsAt) 1 (pc1 := 50) (L1 := [(2, (0, jadd l2 1)), (0, (0, x3)), (1, (0, l13))]) (st1 := []) (h1 := h) rfl ?_
        refine jT.goto (st_Gm_rightsAt) rfl (tgt := 4) (by decide) ?_
        refine jG.subp [1, 2, 0] (L1 := [(0, (0, x3)), (1, (0, l13)), (2, (0, jadd l2 1))]) rfl ?_
        exact ih _ _ _ hv
set_option maxRecDepth 100000 in
set_option maxHeartbeats 4000000 in
theorem C_Gm_rightsAt {E : jE} {h : jH} {a0 : Int} {res : Int} (hv : f_Gm_rightsAt h a0 = some res) : jC E M_Gm_rightsAt [(0, a0)] h (some (0, res)) h := by
  refine jC.of ok_Gm_rightsAt.1 (by rw [jlg]; exact Nat.le_of_ble_eq_true rfl) ?_
  show jG E _ 0 [(0, (0, a0))] [] h _ _
  unfold f_Gm_rightsAt at hv
  refine jG.blk (st_Gm_rightsAt) 4 (pc1 := 4) (L1 := [(2, (0, 0)), (1, (0, 0)), (0, (0, a0))]) (st1 := []) (h1 := h) rfl ?_
  refine jG.subp [2, 1, 0] (L1 := [(0, (0, a0)), (1, (0, 0)), (2, (0, 0))]) rfl ?_
  refine f_Gm_rightsAt_lp4_ok E (fun l15 l16 res hv => ?_) 1000 _ _ _ hv
  · refine jG.blk (st_Gm_rightsAt) 1 (pc1 := 54) (L1 := [(1, (0, l15))]) (st1 := [(0, l15)]) (h1 := h) rfl ?_
    cases hv
    exact jT.iret (st_Gm_rightsAt) rfl trivial
def f_Gm_play_j253 (h45 : jH) (s41 : Int) (s42 : Int) (s43 : Int) (s44 : Int) : Option (jH) := (f_Bd_enterState 2 h45 s44 s43 s42 s41).bind fun v46 => some v46
def f_Gm_play_j240 (h40 : jH) (s37 : Int) (s38 : Int) (s39 : Int) : Option (jH) := f_Gm_play_j253 h40 0 s37 s38 s39
def f_Gm_play_j230 (h36 : jH) (l31 : Int) (l32 : Int) (s33 : Int) (s34 : Int) (s35 : Int) : Option (jH) := if l32 = 0 then if l31 = 0 then f_Gm_play_j253 h36 (jadd (h36 2 4) 1) s33 s34 s35 else f_Gm_play_j240 h36 s33 s34 s35 else f_Gm_play_j240 h36 s33 s34 s35
def f_Gm_play_j229 (h30 : jH) (l26 : Int) (l27 : Int) (s28 : Int) (s29 : Int) : Option (jH) := f_Gm_play_j230 h30 l26 l27 (-1) s28 s29
def f_Gm_play_j173 (h22 : jH) (l18 : Int) (l19 : Int) (l20 : Int) (l21 : Int) : Option (jH) := (f_X_otherSide h22 (h22 2 1)).bind fun v23 => (f_Gm_rightsAt h22 l18).bind fun v24 => (f_Gm_rightsAt h22 l19).bind fun v25 => if l21 = 0 then f_Gm_play_j229 h22 l20 l21 (jand (h22 2 2) (jxor (jor v24 v25) (-1))) v23 else if (if 0 ≤ (jsub l19 l18) then (jsub l19 l18) else jsub 0 (jsub l19 l18)) = 16 then f_Gm_play_j230 h22 l20 l21 (jand l18 7) (jand (h22 2 2) (jxor (jor v24 v25) (-1))) v23 else f_Gm_play_j229 h22 l20 l21 (jand (h22 2 2) (jxor (jor v24 v25) (-1))) v23
def f_Gm_play_j149 (h16 : jH) (l11 : Int) (l12 : Int) (l13 : Int) (l14 : Int) (l15 : Int) : Option (jH) := (f_Gm_isCastling h16 l13 l11 l12).bind fun v17 => if v17 = 0 then f_Gm_play_j173 h16 l11 l12 l14 l15 else (f_Gm_castledRookFrom h16 l11 l12).bind fun v47 => (f_Gm_shiftPiece h16 v47 (jdiv (jadd l11 l12) 2)).bind fun v48 => f_Gm_play_j173 v48 l11 l12 l14 l15
def f_Gm_play_j115 (h10 : jH) (l4 : Int) (l5 : Int) (l6 : Int) (l7 : Int) (l8 : Int) (s9 : Int) : Option (jH) := if l4 < 4096 then f_Gm_play_j149 h10 l5 l6 l7 l8 s9 else (f_X_pieceOf h10 (jadd 1 (jshr l4 12)) (h10 2 1)).bind fun v49 => jgd (0 ≤ l6 ∧ l6 < 64) (f_Gm_play_j149 (jup h10 3 l6.toNat v49) l5 l6 l7 l8 s9)
def f_Gm_play (h : jH) (a1 : Int) : Option (jH) := if a1 < 0 then some h else if h 1 6 < 301 then (f_Bd_victimSquare h (jand a1 63) (jand (jshr a1 6) 63)).bind fun v1 => jgd (0 ≤ jand a1 63 ∧ jand a1 63 < 64) (jgd (0 ≤ v1 ∧ v1 < 64) ((f_Gm_remember h a1 (h 3 v1.toNat)).bind fun v2 => jgd (0 ≤ v1 ∧ v1 < 64) (jgd (0 ≤ jand a1 63 ∧ jand a1 63 < 64) (jgd (0 ≤ jand (jshr a1 6) 63 ∧ jand (jshr a1 6) 63 < 64) ((f_X_kindOf (jup (jup (jup v2 3 v1.toNat 0) 3 (jand a1 63).toNat 0) 3 (jand (jshr a1 6) 63).toNat (h 3 (jand a1 63).toNat)) (h 3 (jand a1 63).toNat)).bind fun v3 => f_Gm_play_j115 (jup (jup (jup v2 3 v1.toNat 0) 3 (jand a1 63).toNat 0) 3 (jand (jshr a1 6) 63).toNat (h 3 (jand a1 63).toNat)) a1 (jand a1 63) (jand (jshr a1 6) 63) (h 3 (jand a1 63).toNat) (h 3 v1.toNat) (if v3 = 1 then 1 else 0)))))) else some h
set_option maxRecDepth 100000 in
set_option maxHeartbeats 4000000 in
theorem f_Gm_play_j253_ok (E : jE) {h45 : jH} {s41 : Int} {s42 : Int} {s43 : Int} {s44 : Int} {res : jH} (hv : f_Gm_play_j253 h45 s41 s42 s43 s44 = some res) : jG E M_Gm_play 253 [] [(0, s41), (0, s42), (0, s43), (0, s44), (2, ((2 : Nat) : Int))] h45 none res := by
  unfold f_Gm_play_j253 at hv
  obtain ⟨v46, hq, hv⟩ := Option.bind_eq_some_iff.mp hv
  refine jT.cV (M1 := M_Bd_enterState) (2, ((2 : Nat) : Int)) [(0, s44), (0, s43), (0, s42), (0, s41)] [] (st_Gm_play) rfl rfl ok_Bd_enterState rfl (Or.inl ⟨rfl, _, _, _, rfl, rfl⟩) (Nat.le_of_ble_eq_true rfl) (Nat.le_of_ble_eq_true rfl) rfl (Nat.le_of_ble_eq_true rfl) (C_Bd_enterState (by decide) hq) ?_
  show jG E _ 256 [] [] v46 _ _
  cases hv
  exact jT.vret (st_Gm_play) rfl trivial
set_option maxRecDepth 100000 in
set_option maxHeartbeats 4000000 in
theorem f_Gm_play_j240_ok (E : jE) {h40 : jH} {s37 : Int} {s38 : Int} {s39 : Int} {res : jH} (hv : f_Gm_play_j240 h40 s37 s38 s39 = some res) : jG E M_Gm_play 240 [] [(0, s37), (0, s38), (0, s39), (2, ((2 : Nat) : Int))] h40 none res := by
  unfold f_Gm_play_j240 at hv
  refine jG.blk (st_Gm_play) 1 (pc1 := 241) (L1 := []) (st1 := [(0, 0), (0, s37), (0, s38), (0, s39), (2, ((2 : Nat) : Int))]) (h1 := h40) rfl ?_
  refine jT.goto (st_Gm_play) rfl (tgt := 253) (by decide) ?_
  exact f_Gm_play_j253_ok E hv
set_option maxRecDepth 100000 in
set_option maxHeartbeats 4000000 in
theorem f_Gm_play_j230_ok (E : jE) {h36 : jH} {l31 : Int} {l32 : Int} {s33 : Int} {s34 : Int} {s35 : Int} {res : jH} (hv : f_Gm_play_j230 h36 l31 l32 s33 s34 s35 = some res) : jG E M_Gm_play 230 [(0, (2, ((1 : Nat) : Int))), (6, (0, l31)), (7, (0, l32))] [(0, s33), (0, s34), (0, s35), (2, ((2 : Nat) : Int))] h36 none res := by
  unfold f_Gm_play_j230 at hv
  refine jG.blk (st_Gm_play) 1 (pc1 := 232) (L1 := [(0, (2, ((1 : Nat) : Int))), (6, (0, l31)), (7, (0, l32))]) (st1 := [(0, l32), (0, s33), (0, s34), (0, s35), (2, ((2 : Nat) : Int))]) (h1 := h36) rfl ?_
  refine jT.if1 (st_Gm_play) rfl (tgt := 240) (by decide) (fun hc => ?_) (fun hc => ?_)
  · have hc : ¬ (l32 = 0) := hc
    try rw [if_neg hc] at hv
    refine jG.subp [] (L1 := []) rfl ?_
    exact f_Gm_play_j240_ok E hv
  · have hc : l32 = 0 := Decidable.not_not.mp hc
    try rw [if_pos hc] at hv
    refine jG.blk (st_Gm_play) 1 (pc1 := 237) (L1 := [(0, (2, ((1 : Nat) : Int))), (6, (0, l31)), (7, (0, l32))]) (st1 := [(0, l31), (0, s33), (0, s34), (0, s35), (2, ((2 : Nat) : Int))]) (h1 := h36) rfl ?_
    refine jT.if1 (st_Gm_play) rfl (tgt := 244) (by decide) (fun hc => ?_) (fun hc => ?_)
    · have hc : l31 = 0 := hc
      try rw [if_pos hc] at hv
      refine jG.blk (st_Gm_play) 5 (pc1 := 253) (L1 := [(0, (2, ((1 : Nat) : Int))), (6, (0, l31)), (7, (0, l32))]) (st1 := [(0, jadd (h36 2 4) 1), (0, s33), (0, s34), (0, s35), (2, ((2 : Nat) : Int))]) (h1 := h36) rfl ?_
      refine jG.subp [] (L1 := []) rfl ?_
      exact f_Gm_play_j253_ok E hv
    · have hc : ¬ (l31 = 0) := hc
      try rw [if_neg hc] at hv
      refine jG.subp [] (L1 := []) rfl ?_
      exact f_Gm_play_j240_ok E hv
set_option maxRecDepth 100000 in
set_option maxHeartbeats 4000000 in
theorem f_Gm_play_j229_ok (E : jE) {h30 : jH} {l26 : Int} {l27 : Int} {s28 : Int} {s29 : Int} {res : jH} (hv : f_Gm_play_j229 h30 l26 l27 s28 s29 = some res) : jG E M_Gm_play 229 [(0, (2, ((1 : Nat) : Int))), (6, (0, l26)), (7, (0, l27))] [(0, s28), (0, s29), (2, ((2 : Nat) : Int))] h30 none res := by
  unfold f_Gm_play_j229 at hv
  refine jG.blk (st_Gm_play) 1 (pc1 := 230) (L1 := [(0, (2, ((1 : Nat) : Int))), (6, (0, l26)), (7, (0, l27))]) (st1 := [(0, (-1)), (0, s28), (0, s29), (2, ((2 : Nat) : Int))]) (h1 := h30) rfl ?_
  exact f_Gm_play_j230_ok E hv
set_option maxRecDepth 100000 in
set_option maxHeartbeats 4000000 in
theorem f_Gm_play_j173_ok (E : jE) {h22 : jH} {l18 : Int} {l19 : Int} {l20 : Int} {l21 : Int} {res : jH} (hv : f_Gm_play_j173 h22 l18 l19 l20 l21 = some res) : jG E M_Gm_play 173 [(0, (2, ((1 : Nat) : Int))), (2, (0, l18)), (3, (0, l19)), (6, (0, l20)), (7, (0, l21))] [] h22 none res := by
  unfold f_Gm_play_j173 at hv
  refine jG.blk (st_Gm_play) 5 (pc1 := 184) (L1 := [(0, (2, ((1 : Nat) : Int))), (2, (0, l18)), (3, (0, l19)), (6, (0, l20)), (7, (0, l21))]) (st1 := [(0, h22 2 1), (2, ((2 : Nat) : Int))]) (h1 := h22) rfl ?_
  obtain ⟨v23, hq, hv⟩ := Option.bind_eq_some_iff.mp hv
  refine jT.cSN (M1 := M_X_otherSide) [(0, h22 2 1)] [(2, ((2 : Nat) : Int))] (st_Gm_play) rfl rfl ok_X_otherSide rfl (Nat.le_of_ble_eq_true rfl) (Nat.le_of_ble_eq_true rfl) rfl (Nat.le_of_ble_eq_true rfl) (C_X_otherSide hq) ?_
  show jG E _ 187 [(0, (2, ((1 : Nat) : Int))), (2, (0, l18)), (3, (0, l19)), (6, (0, l20)), (7, (0, l21))] [(0, v23), (2, ((2 : Nat) : Int))] h22 _ _
  refine jG.blk (st_Gm_play) 4 (pc1 := 195) (L1 := [(0, (2, ((1 : Nat) : Int))), (2, (0, l18)), (3, (0, l19)), (6, (0, l20)), (7, (0, l21))]) (st1 := [(0, l18), (0, h22 2 2), (0, v23), (2, ((2 : Nat) : Int))]) (h1 := h22) rfl ?_
  obtain ⟨v24, hq, hv⟩ := Option.bind_eq_some_iff.mp hv
  refine jT.cS (M1 := M_Gm_rightsAt) [(0, l18)] [(0, h22 2 2), (0, v23), (2, ((2 : Nat) : Int))] (st_Gm_play) rfl rfl ok_Gm_rightsAt rfl (Nat.le_of_ble_eq_true rfl) (Nat.le_of_ble_eq_true rfl) rfl (Nat.le_of_ble_eq_true rfl) (C_Gm_rightsAt hq) ?_
  show jG E _ 198 [(0, (2, ((1 : Nat) : Int))), (2, (0, l18)), (3, (0, l19)), (6, (0, l20)), (7, (0, l21))] [(0, v24), (0, h22 2 2), (0, v23), (2, ((2 : Nat) : Int))] h22 _ _
  refine jG.blk (st_Gm_play) 1 (pc1 := 199) (L1 := [(0, (2, ((1 : Nat) : Int))), (2, (0, l18)), (3, (0, l19)), (6, (0, l20)), (7, (0, l21))]) (st1 := [(0, l19), (0, v24), (0, h22 2 2), (0, v23), (2, ((2 : Nat) : Int))]) (h1 := h22) rfl ?_
  obtain ⟨v25, hq, hv⟩ := Option.bind_eq_some_iff.mp hv
  refine jT.cS (M1 := M_Gm_rightsAt) [(0, l19)] [(0, v24), (0, h22 2 2), (0, v23), (2, ((2 : Nat) : Int))] (st_Gm_play) rfl rfl ok_Gm_rightsAt rfl (Nat.le_of_ble_eq_true rfl) (Nat.le_of_ble_eq_true rfl) rfl (Nat.le_of_ble_eq_true rfl) (C_Gm_rightsAt hq) ?_
  show jG E _ 202 [(0, (2, ((1 : Nat) : Int))), (2, (0, l18)), (3, (0, l19)), (6, (0, l20)), (7, (0, l21))] [(0, v25), (0, v24), (0, h22 2 2), (0, v23), (2, ((2 : Nat) : Int))] h22 _ _
  refine jG.blk (st_Gm_play) 5 (pc1 := 208) (L1 := [(0, (2, ((1 : Nat) : Int))), (2, (0, l18)), (3, (0, l19)), (6, (0, l20)), (7, (0, l21))]) (st1 := [(0, l21), (0, jand (h22 2 2) (jxor (jor v24 v25) (-1))), (0, v23), (2, ((2 : Nat) : Int))]) (h1 := h22) rfl ?_
  refine jT.if1 (st_Gm_play) rfl (tgt := 229) (by decide) (fun hc => ?_) (fun hc => ?_)
  · have hc : l21 = 0 := hc
    try rw [if_pos hc] at hv
    refine jG.subp [0, 3, 4] (L1 := [(0, (2, ((1 : Nat) : Int))), (6, (0, l20)), (7, (0, l21))]) rfl ?_
    exact f_Gm_play_j229_ok E hv
  · have hc : ¬ (l21 = 0) := hc
    try rw [if_neg hc] at hv
    refine jG.blk (st_Gm_play) 3 (pc1 := 214) (L1 := [(0, (2, ((1 : Nat) : Int))), (2, (0, l18)), (3, (0, l19)), (6, (0, l20)), (7, (0, l21))]) (st1 := [(0, jsub l19 l18), (0, jand (h22 2 2) (jxor (jor v24 v25) (-1))), (0, v23), (2, ((2 : Nat) : Int))]) (h1 := h22) rfl ?_
    refine jT.mabs (a := (jsub l19 l18)) (rest := [(0, jand (h22 2 2) (jxor (jor v24 v25) (-1))), (0, v23), (2, ((2 : Nat) : Int))]) (st_Gm_play) rfl (Nat.le_of_ble_eq_true rfl) (Nat.le_of_ble_eq_true rfl) (Nat.le_of_ble_eq_true rfl) ?_
    refine jG.blk (st_Gm_play) 1 (pc1 := 219) (L1 := [(0, (2, ((1 : Nat) : Int))), (2, (0, l18)), (3, (0, l19)), (6, (0, l20)), (7, (0, l21))]) (st1 := [(0, 16), (0, if 0 ≤ (jsub l19 l18) then (jsub l19 l18) else jsub 0 (jsub l19 l18)), (0, jand (h22 2 2) (jxor (jor v24 v25) (-1))), (0, v23), (2, ((2 : Nat) : Int))]) (h1 := h22) rfl ?_
    refine jT.if2 (st_Gm_play) rfl (tgt := 229) (by decide) (fun hc => ?_) (fun hc => ?_)
    · have hc : ¬ ((if 0 ≤ (jsub l19 l18) then (jsub l19 l18) else jsub 0 (jsub l19 l18)) = 16) := hc
      try rw [if_neg hc] at hv
      refine jG.subp [0, 3, 4] (L1 := [(0, (2, ((1 : Nat) : Int))), (6, (0, l20)), (7, (0, l21))]) rfl ?_
      exact f_Gm_play_j229_ok E hv
    · have hc : (if 0 ≤ (jsub l19 l18) then (jsub l19 l18) else jsub 0 (jsub l19 l18)) = 16 := Decidable.not_not.mp hc
      try rw [if_pos hc] at hv
      refine jG.blk (st_Gm_play) 3 (pc1 := 226) (L1 := [(0, (2, ((1 : Nat) : Int))), (2, (0, l18)), (3, (0, l19)), (6, (0, l20)), (7, (0, l21))]) (st1 := [(0, jand l18 7), (0, jand (h22 2 2) (jxor (jor v24 v25) (-1))), (0, v23), (2, ((2 : Nat) : Int))]) (h1 := h22) rfl ?_
      refine jT.goto (st_Gm_play) rfl (tgt := 230) (by decide) ?_
      refine jG.subp [0, 3, 4] (L1 := [(0, (2, ((1 : Nat) : Int))), (6, (0, l20)), (7, (0, l21))]) rfl ?_
      exact f_Gm_play_j230_ok E hv
set_option maxRecDepth 100000 in
set_option maxHeartbeats 4000000 in
theorem f_Gm_play_j149_ok (E : jE) {h16 : jH} {l11 : Int} {l12 : Int} {l13 : Int} {l14 : Int} {l15 : Int} {res : jH} (hv : f_Gm_play_j149 h16 l11 l12 l13 l14 l15 = some res) : jG E M_Gm_play 149 [(0, (2, ((1 : Nat) : Int))), (2, (0, l11)), (3, (0, l12)), (5, (0, l13)), (6, (0, l14)), (7, (0, l15))] [] h16 none res := by
  unfold f_Gm_play_j149 at hv
  refine jG.blk (st_Gm_play) 3 (pc1 := 153) (L1 := [(0, (2, ((1 : Nat) : Int))), (2, (0, l11)), (3, (0, l12)), (5, (0, l13)), (6, (0, l14)), (7, (0, l15))]) (st1 := [(0, l12), (0, l11), (0, l13)]) (h1 := h16) rfl ?_
  obtain ⟨v17, hq, hv⟩ := Option.bind_eq_some_iff.mp hv
  refine jT.cS (M1 := M_Gm_isCastling) [(0, l13), (0, l11), (0, l12)] [] (st_Gm_play) rfl rfl ok_Gm_isCastling rfl (Nat.le_of_ble_eq_true rfl) (Nat.le_of_ble_eq_true rfl) rfl (Nat.le_of_ble_eq_true rfl) (C_Gm_isCastling hq) ?_
  show jG E _ 156 [(0, (2, ((1 : Nat) : Int))), (2, (0, l11)), (3, (0, l12)), (5, (0, l13)), (6, (0, l14)), (7, (0, l15))] [(0, v17)] h16 _ _
  refine jT.if1 (st_Gm_play) rfl (tgt := 173) (by decide) (fun hc => ?_) (fun hc => ?_)
  · have hc : v17 = 0 := hc
    try rw [if_pos hc] at hv
    refine jG.subp [0, 1, 2, 4, 5] (L1 := [(0, (2, ((1 : Nat) : Int))), (2, (0, l11)), (3, (0, l12)), (6, (0, l14)), (7, (0, l15))]) rfl ?_
    exact f_Gm_play_j173_ok E hv
  · have hc : ¬ (v17 = 0) := hc
    try rw [if_neg hc] at hv
    refine jG.blk (st_Gm_play) 3 (pc1 := 162) (L1 := [(0, (2, ((1 : Nat) : Int))), (2, (0, l11)), (3, (0, l12)), (5, (0, l13)), (6, (0, l14)), (7, (0, l15))]) (st1 := [(0, l12), (0, l11), (2, ((1 : Nat) : Int))]) (h1 := h16) rfl ?_
    obtain ⟨v47, hq, hv⟩ := Option.bind_eq_some_iff.mp hv
    refine jT.cS (M1 := M_Gm_castledRookFrom) [(0, l11), (0, l12)] [(2, ((1 : Nat) : Int))] (st_Gm_play) rfl rfl ok_Gm_castledRookFrom rfl (Nat.le_of_ble_eq_true rfl) (Nat.le_of_ble_eq_true rfl) rfl (Nat.le_of_ble_eq_true rfl) (C_Gm_castledRookFrom hq) ?_
    show jG E _ 165 [(0, (2, ((1 : Nat) : Int))), (2, (0, l11)), (3, (0, l12)), (5, (0, l13)), (6, (0, l14)), (7, (0, l15))] [(0, v47), (2, ((1 : Nat) : Int))] h16 _ _
    refine jG.blk (st_Gm_play) 5 (pc1 := 170) (L1 := [(0, (2, ((1 : Nat) : Int))), (2, (0, l11)), (3, (0, l12)), (5, (0, l13)), (6, (0, l14)), (7, (0, l15))]) (st1 := [(0, jdiv (jadd l11 l12) 2), (0, v47), (2, ((1 : Nat) : Int))]) (h1 := h16) rfl ?_
    obtain ⟨v48, hq, hv⟩ := Option.bind_eq_some_iff.mp hv
    refine jT.cV (M1 := M_Gm_shiftPiece) (2, ((1 : Nat) : Int)) [(0, v47), (0, jdiv (jadd l11 l12) 2)] [] (st_Gm_play) rfl rfl ok_Gm_shiftPiece rfl (Or.inl ⟨rfl, _, _, _, rfl, rfl⟩) (Nat.le_of_ble_eq_true rfl) (Nat.le_of_ble_eq_true rfl) rfl (Nat.le_of_ble_eq_true rfl) (C_Gm_shiftPiece hq) ?_
    show jG E _ 173 [(0, (2, ((1 : Nat) : Int))), (2, (0, l11)), (3, (0, l12)), (5, (0, l13)), (6, (0, l14)), (7, (0, l15))] [] v48 _ _
    refine jG.subp [0, 1, 2, 4, 5] (L1 := [(0, (2, ((1 : Nat) : Int))), (2, (0, l11)), (3, (0, l12)), (6, (0, l14)), (7, (0, l15))]) rfl ?_
    exact f_Gm_play_j173_ok E hv
set_option maxRecDepth 100000 in
set_option maxHeartbeats 4000000 in
theorem f_Gm_play_j115_ok (E : jE) {h10 : jH} {l4 : Int} {l5 : Int} {l6 : Int} {l7 : Int} {l8 : Int} {s9 : Int} {res : jH} (hv : f_Gm_play_j115 h10 l4 l5 l6 l7 l8 s9 = some res) : jG E M_Gm_play 115 [(0, (2, ((1 : Nat) : Int))), (1, (0, l4)), (2, (0, l5)), (3, (0, l6)), (5, (0, l7)), (6, (0, l8))] [(0, s9)] h10 none res := by
  unfold f_Gm_play_j115 at hv
  refine jG.blk (st_Gm_play) 3 (pc1 := 121) (L1 := [(7, (0, s9)), (0, (2, ((1 : Nat) : Int))), (1, (0, l4)), (2, (0, l5)), (3, (0, l6)), (5, (0, l7)), (6, (0, l8))]) (st1 := [(0, 4096), (0, l4)]) (h1 := h10) rfl ?_
  refine jT.if2 (st_Gm_play) rfl (tgt := 149) (by decide) (fun hc => ?_) (fun hc => ?_)
  · have hc : l4 < 4096 := hc
    try rw [if_pos hc] at hv
    refine jG.subp [1, 3, 4, 5, 6, 0] (L1 := [(0, (2, ((1 : Nat) : Int))), (2, (0, l5)), (3, (0, l6)), (5, (0, l7)), (6, (0, l8)), (7, (0, s9))]) rfl ?_
    exact f_Gm_play_j149_ok E hv
  · have hc : ¬ (l4 < 4096) := hc
    try rw [if_neg hc] at hv
    refine jG.blk (st_Gm_play) 12 (pc1 := 145) (L1 := [(7, (0, s9)), (0, (2, ((1 : Nat) : Int))), (1, (0, l4)), (2, (0, l5)), (3, (0, l6)), (5, (0, l7)), (6, (0, l8))]) (st1 := [(0, h10 2 1), (0, jadd 1 (jshr l4 12)), (0, l6), (2, ((3 : Nat) : Int))]) (h1 := h10) rfl ?_
    obtain ⟨v49, hq, hv⟩ := Option.bind_eq_some_iff.mp hv
    refine jT.cSN (M1 := M_X_pieceOf) [(0, jadd 1 (jshr l4 12)), (0, h10 2 1)] [(0, l6), (2, ((3 : Nat) : Int))] (st_Gm_play) rfl rfl ok_X_pieceOf rfl (Nat.le_of_ble_eq_true rfl) (Nat.le_of_ble_eq_true rfl) rfl (Nat.le_of_ble_eq_true rfl) (C_X_pieceOf hq) ?_
    show jG E _ 148 [(7, (0, s9)), (0, (2, ((1 : Nat) : Int))), (1, (0, l4)), (2, (0, l5)), (3, (0, l6)), (5, (0, l7)), (6, (0, l8))] [(0, v49), (0, l6), (2, ((3 : Nat) : Int))] h10 _ _
    obtain ⟨hg, hv⟩ := jgd_some hv
    refine jT.iast (a := 3) (st_Gm_play) rfl rfl (by decide) hg.1 hg.2 ?_
    refine jG.subp [1, 3, 4, 5, 6, 0] (L1 := [(0, (2, ((1 : Nat) : Int))), (2, (0, l5)), (3, (0, l6)), (5, (0, l7)), (6, (0, l8)), (7, (0, s9))]) rfl ?_
    exact f_Gm_play_j149_ok E hv
set_option maxRecDepth 100000 in
set_option maxHeartbeats 4000000 in
theorem C_Gm_play {E : jE} {h : jH} {a1 : Int} {res : jH} (hv : f_Gm_play h a1 = some res) : jC E M_Gm_play [(2, ((1 : Nat) : Int)), (0, a1)] h none res := by
  refine jC.of ok_Gm_play.1 (by rw [jlg]; exact Nat.le_of_ble_eq_true rfl) ?_
  show jG E _ 0 [(0, (2, ((1 : Nat) : Int))), (1, (0, a1))] [] h _ _
  unfold f_Gm_play at hv
  refine jG.blk (st_Gm_play) 1 (pc1 := 1) (L1 := [(0, (2, ((1 : Nat) : Int))), (1, (0, a1))]) (st1 := [(0, a1)]) (h1 := h) rfl ?_
  refine jT.if1 (st_Gm_play) rfl (tgt := 14) (by decide) (fun hc => ?_) (fun hc => ?_)
  · have hc : a1 < 0 := hc
    try rw [if_pos hc] at hv
    cases hv
    exact jT.vret (st_Gm_play) rfl trivial
  · have hc : ¬ (a1 < 0) := hc
    try rw [if_neg hc] at hv
    refine jG.blk (st_Gm_play) 3 (pc1 := 11) (L1 := [(0, (2, ((1 : Nat) : Int))), (1, (0, a1))]) (st1 := [(0, 301), (0, h 1 6)]) (h1 := h) rfl ?_
    refine jT.if2 (st_Gm_play) rfl (tgt := 15) (by decide) (fun hc => ?_) (fun hc => ?_)
    · have hc : h 1 6 < 301 := hc
      try rw [if_pos hc] at hv
      refine jG.blk (st_Gm_play) 14 (pc1 := 34) (L1 := [(3, (0, jand (jshr a1 6) 63)), (2, (0, jand a1 63)), (0, (2, ((1 : Nat) : Int))), (1, (0, a1))]) (st1 := [(0, jand (jshr a1 6) 63), (0, jand a1 63), (2, ((2 : Nat) : Int))]) (h1 := h) rfl ?_
      obtain ⟨v1, hq, hv⟩ := Option.bind_eq_some_iff.mp hv
      refine jT.cV (M1 := M_Bd_victimSquare) (2, ((2 : Nat) : Int)) [(0, jand a1 63), (0, jand (jshr a1 6) 63)] [] (st_Gm_play) rfl rfl ok_Bd_victimSquare rfl (Or.inl ⟨rfl, _, _, _, rfl, rfl⟩) (Nat.le_of_ble_eq_true rfl) (Nat.le_of_ble_eq_true rfl) rfl (Nat.le_of_ble_eq_true rfl) (C_Bd_victimSquare hq) ?_
      show jG E _ 37 [(3, (0, jand (jshr a1 6) 63)), (2, (0, jand a1 63)), (0, (2, ((1 : Nat) : Int))), (1, (0, a1))] [(0, v1)] h _ _
      refine jG.blk (st_Gm_play) 5 (pc1 := 47) (L1 := [(4, (0, v1)), (3, (0, jand (jshr a1 6) 63)), (2, (0, jand a1 63)), (0, (2, ((1 : Nat) : Int))), (1, (0, a1))]) (st1 := [(0, jand a1 63), (2, ((3 : Nat) : Int))]) (h1 := h) rfl ?_
      obtain ⟨hg, hv⟩ := jgd_some hv
      refine jT.iald (a := 3) (st_Gm_play) rfl rfl (by decide) hg.1 hg.2 ?_
      refine jG.blk (st_Gm_play) 5 (pc1 := 59) (L1 := [(5, (0, h 3 (jand a1 63).toNat)), (4, (0, v1)), (3, (0, jand (jshr a1 6) 63)), (2, (0, jand a1 63)), (0, (2, ((1 : Nat) : Int))), (1, (0, a1))]) (st1 := [(0, v1), (2, ((3 : Nat) : Int))]) (h1 := h) rfl ?_
      obtain ⟨hg, hv⟩ := jgd_some hv
      refine jT.iald (a := 3) (st_Gm_play) rfl rfl (by decide) hg.1 hg.2 ?_
      refine jG.blk (st_Gm_play) 4 (pc1 := 66) (L1 := [(6, (0, h 3 v1.toNat)), (5, (0, h 3 (jand a1 63).toNat)), (4, (0, v1)), (3, (0, jand (jshr a1 6) 63)), (2, (0, jand a1 63)), (0, (2, ((1 : Nat) : Int))), (1, (0, a1))]) (st1 := [(0, h 3 v1.toNat), (0, a1), (2, ((1 : Nat) : Int))]) (h1 := h) rfl ?_
      obtain ⟨v2, hq, hv⟩ := Option.bind_eq_some_iff.mp hv
      refine jT.cV (M1 := M_Gm_remember) (2, ((1 : Nat) : Int)) [(0, a1), (0, h 3 v1.toNat)] [] (st_Gm_play) rfl rfl ok_Gm_remember rfl (Or.inl ⟨rfl, _, _, _, rfl, rfl⟩) (Nat.le_of_ble_eq_true rfl) (Nat.le_of_ble_eq_true rfl) rfl (Nat.le_of_ble_eq_true rfl) (C_Gm_remember hq) ?_
      show jG E _ 69 [(6, (0, h 3 v1.toNat)), (5, (0, h 3 (jand a1 63).toNat)), (4, (0, v1)), (3, (0, jand (jshr a1 6) 63)), (2, (0, jand a1 63)), (0, (2, ((1 : Nat) : Int))), (1, (0, a1))] [] v2 _ _
      refine jG.blk (st_Gm_play) 5 (pc1 := 79) (L1 := [(6, (0, h 3 v1.toNat)), (5, (0, h 3 (jand a1 63).toNat)), (4, (0, v1)), (3, (0, jand (jshr a1 6) 63)), (2, (0, jand a1 63)), (0, (2, ((1 : Nat) : Int))), (1, (0, a1))]) (st1 := [(0, 0), (0, v1), (2, ((3 : Nat) : Int))]) (h1 := v2) rfl ?_
      obtain ⟨hg, hv⟩ := jgd_some hv
      refine jT.iast (a := 3) (st_Gm_play) rfl rfl (by decide) hg.1 hg.2 ?_
      refine jG.blk (st_Gm_play) 5 (pc1 := 89) (L1 := [(6, (0, h 3 v1.toNat)), (5, (0, h 3 (jand a1 63).toNat)), (4, (0, v1)), (3, (0, jand (jshr a1 6) 63)), (2, (0, jand a1 63)), (0, (2, ((1 : Nat) : Int))), (1, (0, a1))]) (st1 := [(0, 0), (0, jand a1 63), (2, ((3 : Nat) : Int))]) (h1 := jup v2 3 v1.toNat 0) rfl ?_
      obtain ⟨hg, hv⟩ := jgd_some hv
      refine jT.iast (a := 3) (st_Gm_play) rfl rfl (by decide) hg.1 hg.2 ?_
      refine jG.blk (st_Gm_play) 5 (pc1 := 100) (L1 := [(6, (0, h 3 v1.toNat)), (5, (0, h 3 (jand a1 63).toNat)), (4, (0, v1)), (3, (0, jand (jshr a1 6) 63)), (2, (0, jand a1 63)), (0, (2, ((1 : Nat) : Int))), (1, (0, a1))]) (st1 := [(0, h 3 (jand a1 63).toNat), (0, jand (jshr a1 6) 63), (2, ((3 : Nat) : Int))]) (h1 := jup (jup v2 3 v1.toNat 0) 3 (jand a1 63).toNat 0) rfl ?_
      obtain ⟨hg, hv⟩ := jgd_some hv
      refine jT.iast (a := 3) (st_Gm_play) rfl rfl (by decide) hg.1 hg.2 ?_
      refine jG.blk (st_Gm_play) 1 (pc1 := 103) (L1 := [(6, (0, h 3 v1.toNat)), (5, (0, h 3 (jand a1 63).toNat)), (4, (0, v1)), (3, (0, jand (jshr a1 6) 63)), (2, (0, jand a1 63)), (0, (2, ((1 : Nat) : Int))), (1, (0, a1))]) (st1 := [(0, h 3 (jand a1 63).toNat)]) (h1 := jup (jup (jup v2 3 v1.toNat 0) 3 (jand a1 63).toNat 0) 3 (jand (jshr a1 6) 63).toNat (h 3 (jand a1 63).toNat)) rfl ?_
      obtain ⟨v3, hq, hv⟩ := Option.bind_eq_some_iff.mp hv
      refine jT.cSN (M1 := M_X_kindOf) [(0, h 3 (jand a1 63).toNat)] [] (st_Gm_play) rfl rfl ok_X_kindOf rfl (Nat.le_of_ble_eq_true rfl) (Nat.le_of_ble_eq_true rfl) rfl (Nat.le_of_ble_eq_true rfl) (C_X_kindOf hq) ?_
      show jG E _ 106 [(6, (0, h 3 v1.toNat)), (5, (0, h 3 (jand a1 63).toNat)), (4, (0, v1)), (3, (0, jand (jshr a1 6) 63)), (2, (0, jand a1 63)), (0, (2, ((1 : Nat) : Int))), (1, (0, a1))] [(0, v3)] (jup (jup (jup v2 3 v1.toNat 0) 3 (jand a1 63).toNat 0) 3 (jand (jshr a1 6) 63).toNat (h 3 (jand a1 63).toNat)) _ _
      refine jG.blk (st_Gm_play) 1 (pc1 := 107) (L1 := [(6, (0, h 3 v1.toNat)), (5, (0, h 3 (jand a1 63).toNat)), (4, (0, v1)), (3, (0, jand (jshr a1 6) 63)), (2, (0, jand a1 63)), (0, (2, ((1 : Nat) : Int))), (1, (0, a1))]) (st1 := [(0, 1), (0, v3)]) (h1 := jup (jup (jup v2 3 v1.toNat 0) 3 (jand a1 63).toNat 0) 3 (jand (jshr a1 6) 63).toNat (h 3 (jand a1 63).toNat)) rfl ?_
      refine jT.if2 (st_Gm_play) rfl (tgt := 114) (by decide) (fun hc => ?_) (fun hc => ?_)
      · have hc : ¬ (v3 = 1) := hc
        try rw [if_neg hc] at hv
        refine jG.blk (st_Gm_play) 1 (pc1 := 115) (L1 := [(6, (0, h 3 v1.toNat)), (5, (0, h 3 (jand a1 63).toNat)), (4, (0, v1)), (3, (0, jand (jshr a1 6) 63)), (2, (0, jand a1 63)), (0, (2, ((1 : Nat) : Int))), (1, (0, a1))]) (st1 := [(0, 0)]) (h1 := jup (jup (jup v2 3 v1.toNat 0) 3 (jand a1 63).toNat 0) 3 (jand (jshr a1 6) 63).toNat (h 3 (jand a1 63).toNat)) rfl ?_
        refine jG.subp [5, 6, 4, 3, 1, 0] (L1 := [(0, (2, ((1 : Nat) : Int))), (1, (0, a1)), (2, (0, jand a1 63)), (3, (0, jand (jshr a1 6) 63)), (5, (0, h 3 (jand a1 63).toNat)), (6, (0, h 3 v1.toNat))]) rfl ?_
        exact f_Gm_play_j115_ok E hv
      · have hc : v3 = 1 := Decidable.not_not.mp hc
        try rw [if_pos hc] at hv
        refine jG.blk (st_Gm_play) 1 (pc1 := 111) (L1 := [(6, (0, h 3 v1.toNat)), (5, (0, h 3 (jand a1 63).toNat)), (4, (0, v1)), (3, (0, jand (jshr a1 6) 63)), (2, (0, jand a1 63)), (0, (2, ((1 : Nat) : Int))), (1, (0, a1))]) (st1 := [(0, 1)]) (h1 := jup (jup (jup v2 3 v1.toNat 0) 3 (jand a1 63).toNat 0) 3 (jand (jshr a1 6) 63).toNat (h 3 (jand a1 63).toNat)) rfl ?_
        refine jT.goto (st_Gm_play) rfl (tgt := 115) (by decide) ?_
        refine jG.subp [5, 6, 4, 3, 1, 0] (L1 := [(0, (2, ((1 : Nat) : Int))), (1, (0, a1)), (2, (0, jand a1 63)), (3, (0, jand (jshr a1 6) 63)), (5, (0, h 3 (jand a1 63).toNat)), (6, (0, h 3 v1.toNat))]) rfl ?_
        exact f_Gm_play_j115_ok E hv
    · have hc : ¬ (h 1 6 < 301) := hc
      try rw [if_neg hc] at hv
      cases hv
      exact jT.vret (st_Gm_play) rfl trivial
def f_Gm_takeBack_j118 (h6 : jH) (l4 : Int) (l5 : Int) : Option (jH) := (f_Bd_victimSquare h6 l4 l5).bind fun v7 => jgd (0 ≤ h6 1 6 ∧ h6 1 6 < 301) (jgd (0 ≤ v7 ∧ v7 < 64) (jgd (0 ≤ l4 ∧ l4 < 64) ((f_Gm_isCastling (jup h6 3 v7.toNat (h6 5 (h6 1 6).toNat)) ((jup h6 3 v7.toNat (h6 5 (h6 1 6).toNat)) 3 l4.toNat) l4 l5).bind fun v8 => if v8 = 0 then some (jup h6 3 v7.toNat (h6 5 (h6 1 6).toNat)) else (f_Gm_castledRookFrom (jup h6 3 v7.toNat (h6 5 (h6 1 6).toNat)) l4 l5).bind fun v9 => (f_Gm_shiftPiece (jup h6 3 v7.toNat (h6 5 (h6 1 6).toNat)) (jdiv (jadd l4 l5) 2) v9).bind fun v10 => some v10)))
def f_Gm_takeBack (h : jH) : Option (jH) := if h 1 6 = 0 then some h else jgd (0 ≤ (jup h 1 6 (jsub (h 1 6) 1)) 1 6 ∧ (jup h 1 6 (jsub (h 1 6) 1)) 1 6 < 301) ((f_X_otherSide (jup h 1 6 (jsub (h 1 6) 1)) ((jup h 1 6 (jsub (h 1 6) 1)) 2 1)).bind fun v1 => jgd (0 ≤ (jup h 1 6 (jsub (h 1 6) 1)) 1 6 ∧ (jup h 1 6 (jsub (h 1 6) 1)) 1 6 < 301) (jgd (0 ≤ (jup h 1 6 (jsub (h 1 6) 1)) 1 6 ∧ (jup h 1 6 (jsub (h 1 6) 1)) 1 6 < 301) (jgd (0 ≤ (jup h 1 6 (jsub (h 1 6) 1)) 1 6 ∧ (jup h 1 6 (jsub (h 1 6) 1)) 1 6 < 301) ((f_Bd_enterState 2 (jup h 1 6 (jsub (h 1 6) 1)) v1 ((jup h 1 6 (jsub (h 1 6) 1)) 6 ((jup h 1 6 (jsub (h 1 6) 1)) 1 6).toNat) ((jup h 1 6 (jsub (h 1 6) 1)) 7 ((jup h 1 6 (jsub (h 1 6) 1)) 1 6).toNat) ((jup h 1 6 (jsub (h 1 6) 1)) 8 ((jup h 1 6 (jsub (h 1 6) 1)) 1 6).toNat)).bind fun v2 => (f_Gm_shiftPiece v2 (jand (jshr ((jup h 1 6 (jsub (h 1 6) 1)) 4 ((jup h 1 6 (jsub (h 1 6) 1)) 1 6).toNat) 6) 63) (jand ((jup h 1 6 (jsub (h 1 6) 1)) 4 ((jup h 1 6 (jsub (h 1 6) 1)) 1 6).toNat) 63)).bind fun v3 => if (jup h 1 6 (jsub (h 1 6) 1)) 4 ((jup h 1 6 (jsub (h 1 6) 1)) 1 6).toNat < 4096 then f_Gm_takeBack_j118 v3 (jand ((jup h 1 6 (jsub (h 1 6) 1)) 4 ((jup h 1 6 (jsub (h 1 6) 1)) 1 6).toNat) 63) (jand (jshr ((jup h 1 6 (jsub (h 1 6) 1)) 4 ((jup h 1 6 (jsub (h 1 6) 1)) 1 6).toNat) 6) 63) else (f_X_pieceOf v3 1 (v3 2 1)).bind fun v11 => jgd (0 ≤ jand ((jup h 1 6 (jsub (h 1 6) 1)) 4 ((jup h 1 6 (jsub (h 1 6) 1)) 1 6).toNat) 63 ∧ jand ((jup h 1 6 (jsub (h 1 6) 1)) 4 ((jup h 1 6 (jsub (h 1 6) 1)) 1 6).toNat) 63 < 64) (f_Gm_takeBack_j118 (jup v3 3 (jand ((jup h 1 6 (jsub (h 1 6) 1)) 4 ((jup h 1 6 (jsub (h 1 6) 1)) 1 6).toNat) 63).toNat v11) (jand ((jup h 1 6 (jsub (h 1 6) 1)) 4 ((jup h 1 6 (jsub (h 1 6) 1)) 1 6).toNat) 63) (jand (jshr ((jup h 1 6 (jsub (h 1 6) 1)) 4 ((jup h 1 6 (jsub (h 1 6) 1)) 1 6).toNat) 6) 63))))))
set_option maxRecDepth 100000 in
set_option maxHeartbeats 4000000 in
theorem f_Gm_takeBack_j118_ok (E : jE) {h6 : jH} {l4 : Int} {l5 : Int} {res : jH} (hv : f_Gm_takeBack_j118 h6 l4 l5 = some res) : jG E M_Gm_takeBack 118 [(0, (2, ((1 : Nat) : Int))), (2, (0, l4)), (3, (0, l5))] [] h6 none res := by
  unfold f_Gm_takeBack_j118 at hv
  refine jG.blk (st_Gm_takeBack) 7 (pc1 := 131) (L1 := [(0, (2, ((1 : Nat) : Int))), (2, (0, l4)), (3, (0, l5))]) (st1 := [(0, l5), (0, l4), (2, ((2 : Nat) : Int)), (2, ((3 : Nat) : Int))]) (h1 := h6) rfl ?_
  obtain ⟨v7, hq, hv⟩ := Option.bind_eq_some_iff.mp hv
  refine jT.cV (M1 := M_Bd_victimSquare) (2, ((2 : Nat) : Int)) [(0, l4), (0, l5)] [(2, ((3 : Nat) : Int))] (st_Gm_takeBack) rfl rfl ok_Bd_victimSquare rfl (Or.inl ⟨rfl, _, _, _, rfl, rfl⟩) (Nat.le_of_ble_eq_true rfl) (Nat.le_of_ble_eq_true rfl) rfl (Nat.le_of_ble_eq_true rfl) (C_Bd_victimSquare hq) ?_
  show jG E _ 134 [(0, (2, ((1 : Nat) : Int))), (2, (0, l4)), (3, (0, l5))] [(0, v7), (2, ((3 : Nat) : Int))] h6 _ _
  refine jG.blk (st_Gm_takeBack) 4 (pc1 := 142) (L1 := [(0, (2, ((1 : Nat) : Int))), (2, (0, l4)), (3, (0, l5))]) (st1 := [(0, h6 1 6), (2, ((5 : Nat) : Int)), (0, v7), (2, ((3 : Nat) : Int))]) (h1 := h6) rfl ?_
  obtain ⟨hg, hv⟩ := jgd_some hv
  refine jT.iald (a := 5) (st_Gm_takeBack) rfl rfl (by decide) hg.1 hg.2 ?_
  obtain ⟨hg, hv⟩ := jgd_some hv
  refine jT.iast (a := 3) (st_Gm_takeBack) rfl rfl (by decide) hg.1 hg.2 ?_
  refine jG.blk (st_Gm_takeBack) 4 (pc1 := 152) (L1 := [(0, (2, ((1 : Nat) : Int))), (2, (0, l4)), (3, (0, l5))]) (st1 := [(0, l4), (2, ((3 : Nat) : Int))]) (h1 := jup h6 3 v7.toNat (h6 5 (h6 1 6).toNat)) rfl ?_
  obtain ⟨hg, hv⟩ := jgd_some hv
  refine jT.iald (a := 3) (st_Gm_takeBack) rfl rfl (by decide) hg.1 hg.2 ?_
  refine jG.blk (st_Gm_takeBack) 2 (pc1 := 155) (L1 := [(0, (2, ((1 : Nat) : Int))), (2, (0, l4)), (3, (0, l5))]) (st1 := [(0, l5), (0, l4), (0, (jup h6 3 v7.toNat (h6 5 (h6 1 6).toNat)) 3 l4.toNat)]) (h1 := jup h6 3 v7.toNat (h6 5 (h6 1 6).toNat)) rfl ?_
  obtain ⟨v8, hq, hv⟩ := Option.bind_eq_some_iff.mp hv
  refine jT.cS (M1 := M_Gm_isCastling) [(0, (jup h6 3 v7.toNat (h6 5 (h6 1 6).toNat)) 3 l4.toNat), (0, l4), (0, l5)] [] (st_Gm_takeBack) rfl rfl ok_Gm_isCastling rfl (Nat.le_of_ble_eq_true rfl) (Nat.le_of_ble_eq_true rfl) rfl (Nat.le_of_ble_eq_true rfl) (C_Gm_isCastling hq) ?_
  show jG E _ 158 [(0, (2, ((1 : Nat) : Int))), (2, (0, l4)), (3, (0, l5))] [(0, v8)] (jup h6 3 v7.toNat (h6 5 (h6 1 6).toNat)) _ _
  refine jT.if1 (st_Gm_takeBack) rfl (tgt := 175) (by decide) (fun hc => ?_) (fun hc => ?_)
  · have hc : v8 = 0 := hc
    try rw [if_pos hc] at hv
    cases hv
    exact jT.vret (st_Gm_takeBack) rfl trivial
  · have hc : ¬ (v8 = 0) := hc
    try rw [if_neg hc] at hv
    refine jG.blk (st_Gm_takeBack) 8 (pc1 := 169) (L1 := [(0, (2, ((1 : Nat) : Int))), (2, (0, l4)), (3, (0, l5))]) (st1 := [(0, l5), (0, l4), (0, jdiv (jadd l4 l5) 2), (2, ((1 : Nat) : Int))]) (h1 := jup h6 3 v7.toNat (h6 5 (h6 1 6).toNat)) rfl ?_
    obtain ⟨v9, hq, hv⟩ := Option.bind_eq_some_iff.mp hv
    refine jT.cS (M1 := M_Gm_castledRookFrom) [(0, l4), (0, l5)] [(0, jdiv (jadd l4 l5) 2), (2, ((1 : Nat) : Int))] (st_Gm_takeBack) rfl rfl ok_Gm_castledRookFrom rfl (Nat.le_of_ble_eq_true rfl) (Nat.le_of_ble_eq_true rfl) rfl (Nat.le_of_ble_eq_true rfl) (C_Gm_castledRookFrom hq) ?_
    show jG E _ 172 [(0, (2, ((1 : Nat) : Int))), (2, (0, l4)), (3, (0, l5))] [(0, v9), (0, jdiv (jadd l4 l5) 2), (2, ((1 : Nat) : Int))] (jup h6 3 v7.toNat (h6 5 (h6 1 6).toNat)) _ _
    obtain ⟨v10, hq, hv⟩ := Option.bind_eq_some_iff.mp hv
    refine jT.cV (M1 := M_Gm_shiftPiece) (2, ((1 : Nat) : Int)) [(0, jdiv (jadd l4 l5) 2), (0, v9)] [] (st_Gm_takeBack) rfl rfl ok_Gm_shiftPiece rfl (Or.inl ⟨rfl, _, _, _, rfl, rfl⟩) (Nat.le_of_ble_eq_true rfl) (Nat.le_of_ble_eq_true rfl) rfl (Nat.le_of_ble_eq_true rfl) (C_Gm_shiftPiece hq) ?_
    show jG E _ 175 [(0, (2, ((1 : Nat) : Int))), (2, (0, l4)), (3, (0, l5))] [] v10 _ _
    cases hv
    exact jT.vret (st_Gm_takeBack) rfl trivial
set_option maxRecDepth 100000 in
set_option maxHeartbeats 4000000 in
theorem C_Gm_takeBack {E : jE} {h : jH} {res : jH} (hv : f_Gm_takeBack h = some res) : jC E M_Gm_takeBack [(2, ((1 : Nat) : Int))] h none res := by
  refine jC.of ok_Gm_takeBack.1 (by rw [jlg]; exact Nat.le_of_ble_eq_true rfl) ?_
  show jG E _ 0 [(0, (2, ((1 : Nat) : Int)))] [] h _ _
  unfold f_Gm_takeBack at hv
  refine jG.blk (st_Gm_takeBack) 2 (pc1 := 4) (L1 := [(0, (2, ((1 : Nat) : Int)))]) (st1 := [(0, h 1 6)]) (h1 := h) rfl ?_
  refine jT.if1 (st_Gm_takeBack) rfl (tgt := 8) (by decide) (fun hc => ?_) (fun hc => ?_)
  · have hc : ¬ (h 1 6 = 0) := hc
    try rw [if_neg hc] at hv
    refine jG.blk (st_Gm_takeBack) 10 (pc1 := 26) (L1 := [(0, (2, ((1 : Nat) : Int)))]) (st1 := [(0, (jup h 1 6 (jsub (h 1 6) 1)) 1 6), (2, ((4 : Nat) : Int))]) (h1 := jup h 1 6 (jsub (h 1 6) 1)) rfl ?_
    obtain ⟨hg, hv⟩ := jgd_some hv
    refine jT.iald (a := 4) (st_Gm_takeBack) rfl rfl (by decide) hg.1 hg.2 ?_
    refine jG.blk (st_Gm_takeBack) 16 (pc1 := 52) (L1 := [(3, (0, jand (jshr ((jup h 1 6 (jsub (h 1 6) 1)) 4 ((jup h 1 6 (jsub (h 1 6) 1)) 1 6).toNat) 6) 63)), (2, (0, jand ((jup h 1 6 (jsub (h 1 6) 1)) 4 ((jup h 1 6 (jsub (h 1 6) 1)) 1 6).toNat) 63)), (1, (0, (jup h 1 6 (jsub (h 1 6) 1)) 4 ((jup h 1 6 (jsub (h 1 6) 1)) 1 6).toNat)), (0, (2, ((1 : Nat) : Int)))]) (st1 := [(0, (jup h 1 6 (jsub (h 1 6) 1)) 2 1), (2, ((2 : Nat) : Int))]) (h1 := jup h 1 6 (jsub (h 1 6) 1)) rfl ?_
    obtain ⟨v1, hq, hv⟩ := Option.bind_eq_some_iff.mp hv
    refine jT.cSN (M1 := M_X_otherSide) [(0, (jup h 1 6 (jsub (h 1 6) 1)) 2 1)] [(2, ((2 : Nat) : Int))] (st_Gm_takeBack) rfl rfl ok_X_otherSide rfl (Nat.le_of_ble_eq_true rfl) (Nat.le_of_ble_eq_true rfl) rfl (Nat.le_of_ble_eq_true rfl) (C_X_otherSide hq) ?_
    show jG E _ 55 [(3, (0, jand (jshr ((jup h 1 6 (jsub (h 1 6) 1)) 4 ((jup h 1 6 (jsub (h 1 6) 1)) 1 6).toNat) 6) 63)), (2, (0, jand ((jup h 1 6 (jsub (h 1 6) 1)) 4 ((jup h 1 6 (jsub (h 1 6) 1)) 1 6).toNat) 63)), (1, (0, (jup h 1 6 (jsub (h 1 6) 1)) 4 ((jup h 1 6 (jsub (h 1 6) 1)) 1 6).toNat)), (0, (2, ((1 : Nat) : Int)))] [(0, v1), (2, ((2 : Nat) : Int))] (jup h 1 6 (jsub (h 1 6) 1)) _ _
    refine jG.blk (st_Gm_takeBack) 4 (pc1 := 63) (L1 := [(3, (0, jand (jshr ((jup h 1 6 (jsub (h 1 6) 1)) 4 ((jup h 1 6 (jsub (h 1 6) 1)) 1 6).toNat) 6) 63)), (2, (0, jand ((jup h 1 6 (jsub (h 1 6) 1)) 4 ((jup h 1 6 (jsub (h 1 6) 1)) 1 6).toNat) 63)), (1, (0, (jup h 1 6 (jsub (h 1 6) 1)) 4 ((jup h 1 6 (jsub (h 1 6) 1)) 1 6).toNat)), (0, (2, ((1 : Nat) : Int)))]) (st1 := [(0, (jup h 1 6 (jsub (h 1 6) 1)) 1 6), (2, ((6 : Nat) : Int)), (0, v1), (2, ((2 : Nat) : Int))]) (h1 := jup h 1 6 (jsub (h 1 6) 1)) rfl ?_
    obtain ⟨hg, hv⟩ := jgd_some hv
    refine jT.iald (a := 6) (st_Gm_takeBack) rfl rfl (by decide) hg.1 hg.2 ?_
    refine jG.blk (st_Gm_takeBack) 4 (pc1 := 72) (L1 := [(3, (0, jand (jshr ((jup h 1 6 (jsub (h 1 6) 1)) 4 ((jup h 1 6 (jsub (h 1 6) 1)) 1 6).toNat) 6) 63)), (2, (0, jand ((jup h 1 6 (jsub (h 1 6) 1)) 4 ((jup h 1 6 (jsub (h 1 6) 1)) 1 6).toNat) 63)), (1, (0, (jup h 1 6 (jsub (h 1 6) 1)) 4 ((jup h 1 6 (jsub (h 1 6) 1)) 1 6).toNat)), (0, (2, ((1 : Nat) : Int)))]) (st1 := [(0, (jup h 1 6 (jsub (h 1 6) 1)) 1 6), (2, ((7 : Nat) : Int)), (0, (jup h 1 6 (jsub (h 1 6) 1)) 6 ((jup h 1 6 (jsub (h 1 6) 1)) 1 6).toNat), (0, v1), (2, ((2 : Nat) : Int))]) (h1 := jup h 1 6 (jsub (h 1 6) 1)) rfl ?_
    obtain ⟨hg, hv⟩ := jgd_some hv
    refine jT.iald (a := 7) (st_Gm_takeBack) rfl rfl (by decide) hg.1 hg.2 ?_
    refine jG.blk (st_Gm_takeBack) 4 (pc1 := 81) (L1 := [(3, (0, jand (jshr ((jup h 1 6 (jsub (h 1 6) 1)) 4 ((jup h 1 6 (jsub (h 1 6) 1)) 1 6).toNat) 6) 63)), (2, (0, jand ((jup h 1 6 (jsub (h 1 6) 1)) 4 ((jup h 1 6 (jsub (h 1 6) 1)) 1 6).toNat) 63)), (1, (0, (jup h 1 6 (jsub (h 1 6) 1)) 4 ((jup h 1 6 (jsub (h 1 6) 1)) 1 6).toNat)), (0, (2, ((1 : Nat) : Int)))]) (st1 := [(0, (jup h 1 6 (jsub (h 1 6) 1)) 1 6), (2, ((8 : Nat) : Int)), (0, (jup h 1 6 (jsub (h 1 6) 1)) 7 ((jup h 1 6 (jsub (h 1 6) 1)) 1 6).toNat), (0, (jup h 1 6 (jsub (h 1 6) 1)) 6 ((jup h 1 6 (jsub (h 1 6) 1)) 1 6).toNat), (0, v1), (2, ((2 : Nat) : Int))]) (h1 := jup h 1 6 (jsub (h 1 6) 1)) rfl ?_
    obtain ⟨hg, hv⟩ := jgd_some hv
    refine jT.iald (a := 8) (st_Gm_takeBack) rfl rfl (by decide) hg.1 hg.2 ?_
    obtain ⟨v2, hq, hv⟩ := Option.bind_eq_some_iff.mp hv
    refine jT.cV (M1 := M_Bd_enterState) (2, ((2 : Nat) : Int)) [(0, v1), (0, (jup h 1 6 (jsub (h 1 6) 1)) 6 ((jup h 1 6 (jsub (h 1 6) 1)) 1 6).toNat), (0, (jup h 1 6 (jsub (h 1 6) 1)) 7 ((jup h 1 6 (jsub (h 1 6) 1)) 1 6).toNat), (0, (jup h 1 6 (jsub (h 1 6) 1)) 8 ((jup h 1 6 (jsub (h 1 6) 1)) 1 6).toNat)] [] (st_Gm_takeBack) rfl rfl ok_Bd_enterState rfl (Or.inl ⟨rfl, _, _, _, rfl, rfl⟩) (Nat.le_of_ble_eq_true rfl) (Nat.le_of_ble_eq_true rfl) rfl (Nat.le_of_ble_eq_true rfl) (C_Bd_enterState (by decide) hq) ?_
    show jG E _ 85 [(3, (0, jand (jshr ((jup h 1 6 (jsub (h 1 6) 1)) 4 ((jup h 1 6 (jsub (h 1 6) 1)) 1 6).toNat) 6) 63)), (2, (0, jand ((jup h 1 6 (jsub (h 1 6) 1)) 4 ((jup h 1 6 (jsub (h 1 6) 1)) 1 6).toNat) 63)), (1, (0, (jup h 1 6 (jsub (h 1 6) 1)) 4 ((jup h 1 6 (jsub (h 1 6) 1)) 1 6).toNat)), (0, (2, ((1 : Nat) : Int)))] [] v2 _ _
    refine jG.blk (st_Gm_takeBack) 3 (pc1 := 88) (L1 := [(3, (0, jand (jshr ((jup h 1 6 (jsub (h 1 6) 1)) 4 ((jup h 1 6 (jsub (h 1 6) 1)) 1 6).toNat) 6) 63)), (2, (0, jand ((jup h 1 6 (jsub (h 1 6) 1)) 4 ((jup h 1 6 (jsub (h 1 6) 1)) 1 6).toNat) 63)), (1, (0, (jup h 1 6 (jsub (h 1 6) 1)) 4 ((jup h 1 6 (jsub (h 1 6) 1)) 1 6).toNat)), (0, (2, ((1 : Nat) : Int)))]) (st1 := [(0, jand ((jup h 1 6 (jsub (h 1 6) 1)) 4 ((jup h 1 6 (jsub (h 1 6) 1)) 1 6).toNat) 63), (0, jand (jshr ((jup h 1 6 (jsub (h 1 6) 1)) 4 ((jup h 1 6 (jsub (h 1 6) 1)) 1 6).toNat) 6) 63), (2, ((1 : Nat) : Int))]) (h1 := v2) rfl ?_
    obtain ⟨v3, hq, hv⟩ := Option.bind_eq_some_iff.mp hv
    refine jT.cV (M1 := M_Gm_shiftPiece) (2, ((1 : Nat) : Int)) [(0, jand (jshr ((jup h 1 6 (jsub (h 1 6) 1)) 4 ((jup h 1 6 (jsub (h 1 6) 1)) 1 6).toNat) 6) 63), (0, jand ((jup h 1 6 (jsub (h 1 6) 1)) 4 ((jup h 1 6 (jsub (h 1 6) 1)) 1 6).toNat) 63)] [] (st_Gm_takeBack) rfl rfl ok_Gm_shiftPiece rfl (Or.inl ⟨rfl, _, _, _, rfl, rfl⟩) (Nat.le_of_ble_eq_true rfl) (Nat.le_of_ble_eq_true rfl) rfl (Nat.le_of_ble_eq_true rfl) (C_Gm_shiftPiece hq) ?_
    show jG E _ 91 [(3, (0, jand (jshr ((jup h 1 6 (jsub (h 1 6) 1)) 4 ((jup h 1 6 (jsub (h 1 6) 1)) 1 6).toNat) 6) 63)), (2, (0, jand ((jup h 1 6 (jsub (h 1 6) 1)) 4 ((jup h 1 6 (jsub (h 1 6) 1)) 1 6).toNat) 63)), (1, (0, (jup h 1 6 (jsub (h 1 6) 1)) 4 ((jup h 1 6 (jsub (h 1 6) 1)) 1 6).toNat)), (0, (2, ((1 : Nat) : Int)))] [] v3 _ _
    refine jG.blk (st_Gm_takeBack) 2 (pc1 := 95) (L1 := [(3, (0, jand (jshr ((jup h 1 6 (jsub (h 1 6) 1)) 4 ((jup h 1 6 (jsub (h 1 6) 1)) 1 6).toNat) 6) 63)), (2, (0, jand ((jup h 1 6 (jsub (h 1 6) 1)) 4 ((jup h 1 6 (jsub (h 1 6) 1)) 1 6).toNat) 63)), (1, (0, (jup h 1 6 (jsub (h 1 6) 1)) 4 ((jup h 1 6 (jsub (h 1 6) 1)) 1 6).toNat)), (0, (2, ((1 : Nat) : Int)))]) (st1 := [(0, 4096), (0, (jup h 1 6 (jsub (h 1 6) 1)) 4 ((jup h 1 6 (jsub (h 1 6) 1)) 1 6).toNat)]) (h1 := v3) rfl ?_
    refine jT.if2 (st_Gm_takeBack) rfl (tgt := 118) (by decide) (fun hc => ?_) (fun hc => ?_)
    · have hc : (jup h 1 6 (jsub (h 1 6) 1)) 4 ((jup h 1 6 (jsub (h 1 6) 1)) 1 6).toNat < 4096 := hc
      try rw [if_pos hc] at hv
      refine jG.subp [3, 1, 0] (L1 := [(0, (2, ((1 : Nat) : Int))), (2, (0, jand ((jup h 1 6 (jsub (h 1 6) 1)) 4 ((jup h 1 6 (jsub (h 1 6) 1)) 1 6).toNat) 63)), (3, (0, jand (jshr ((jup h 1 6 (jsub (h 1 6) 1)) 4 ((jup h 1 6 (jsub (h 1 6) 1)) 1 6).toNat) 6) 63))]) rfl ?_
      exact f_Gm_takeBack_j118_ok E hv
    · have hc : ¬ ((jup h 1 6 (jsub (h 1 6) 1)) 4 ((jup h 1 6 (jsub (h 1 6) 1)) 1 6).toNat < 4096) := hc
      try rw [if_neg hc] at hv
      refine jG.blk (st_Gm_takeBack) 8 (pc1 := 114) (L1 := [(3, (0, jand (jshr ((jup h 1 6 (jsub (h 1 6) 1)) 4 ((jup h 1 6 (jsub (h 1 6) 1)) 1 6).toNat) 6) 63)), (2, (0, jand ((jup h 1 6 (jsub (h 1 6) 1)) 4 ((jup h 1 6 (jsub (h 1 6) 1)) 1 6).toNat) 63)), (1, (0, (jup h 1 6 (jsub (h 1 6) 1)) 4 ((jup h 1 6 (jsub (h 1 6) 1)) 1 6).toNat)), (0, (2, ((1 : Nat) : Int)))]) (st1 := [(0, v3 2 1), (0, 1), (0, jand ((jup h 1 6 (jsub (h 1 6) 1)) 4 ((jup h 1 6 (jsub (h 1 6) 1)) 1 6).toNat) 63), (2, ((3 : Nat) : Int))]) (h1 := v3) rfl ?_
      obtain ⟨v11, hq, hv⟩ := Option.bind_eq_some_iff.mp hv
      refine jT.cSN (M1 := M_X_pieceOf) [(0, 1), (0, v3 2 1)] [(0, jand ((jup h 1 6 (jsub (h 1 6) 1)) 4 ((jup h 1 6 (jsub (h 1 6) 1)) 1 6).toNat) 63), (2, ((3 : Nat) : Int))] (st_Gm_takeBack) rfl rfl ok_X_pieceOf rfl (Nat.le_of_ble_eq_true rfl) (Nat.le_of_ble_eq_true rfl) rfl (Nat.le_of_ble_eq_true rfl) (C_X_pieceOf hq) ?_
      show jG E _ 117 [(3, (0, jand (jshr ((jup h 1 6 (jsub (h 1 6) 1)) 4 ((jup h 1 6 (jsub (h 1 6) 1)) 1 6).toNat) 6) 63)), (2, (0, jand ((jup h 1 6 (jsub (h 1 6) 1)) 4 ((jup h 1 6 (jsub (h 1 6) 1)) 1 6).toNat) 63)), (1, (0, (jup h 1 6 (jsub (h 1 6) 1)) 4 ((jup h 1 6 (jsub (h 1 6) 1)) 1 6).toNat)), (0, (2, ((1 : Nat) : Int)))] [(0, v11), (0, jand ((jup h 1 6 (jsub (h 1 6) 1)) 4 ((jup h 1 6 (jsub (h 1 6) 1)) 1 6).toNat) 63), (2, ((3 : Nat) : Int))] v3 _ _
      obtain ⟨hg, hv⟩ := jgd_some hv
      refine jT.iast (a := 3) (st_Gm_takeBack) rfl rfl (by decide) hg.1 hg.2 ?_
      refine jG.subp [3, 1, 0] (L1 := [(0, (2, ((1 : Nat) : Int))), (2, (0, jand ((jup h 1 6 (jsub (h 1 6) 1)) 4 ((jup h 1 6 (jsub (h 1 6) 1)) 1 6).toNat) 63)), (3, (0, jand (jshr ((jup h 1 6 (jsub (h 1 6) 1)) 4 ((jup h 1 6 (jsub (h 1 6) 1)) 1 6).toNat) 6) 63))]) rfl ?_
      exact f_Gm_takeBack_j118_ok E hv
  · have hc : h 1 6 = 0 := Decidable.not_not.mp hc
    try rw [if_pos hc] at hv
    cases hv
    exact jT.vret (st_Gm_takeBack) rfl trivial
def f_Ps_isSame_lp24 (h : jH) (x2 : Int) (x3 : Int) (k : Int → Option (Int)) : Nat → Int → Option (Int)
  | 0, _ => none
  | n + 1, l1 => if 6 ≤ l1 then k l1 else jgd (0 ≤ jadd x2 l1 ∧ jadd x2 l1 < 1806) (jgd (0 ≤ jadd x3 l1 ∧ jadd x3 l1 < 1806) (if jcmp (h 10 (jadd x2 l1).toNat) (h 10 (jadd x3 l1).toNat) = 0 then f_Ps_isSame_lp24 h x2 x3 k n (jadd l1 1) else some 0))
def f_Ps_isSame (h : jH) (a1 : Int) (a2 : Int) : Option (Int) := if 1806 < jadd a1 6 then some 0 else if jadd a2 6 ≤ 1806 then f_Ps_isSame_lp24 h a1 a2 (fun l4 => some 1) 1000 0 else some 0
set_option maxRecDepth 100000 in
set_option maxHeartbeats 4000000 in
theorem f_Ps_isSame_lp24_ok (E : jE) {h : jH} {x2 : Int} {x3 : Int} {k : Int → Option (Int)} (hk : ∀ (l1 : Int) (res : Int), k l1 = some res → jG E M_Ps_isSame 58 [] [] h (some (0, res)) h) : ∀ (n : Nat) (l1 : Int) (res : Int), f_Ps_isSame_lp24 h x2 x3 k n l1 = some res → jG E M_Ps_isSame 24 [(0, (2, ((9 : Nat) : Int))), (1, (0, x2)), (2, (0, x3)), (3, (0, l1))] [] h (some (0, res)) h := by
  intro n
  induction n with
  | zero => intro l1 res hv; cases hv
  | succ n ih =>
    intro l1 res hv
    rw [f_Ps_isSame_lp24] at hv
    refine jG.blk (st_Ps_isSame) 2 (pc1 := 27) (L1 := [(0, (2, ((9 : Nat) : Int))), (1, (0, x2)), (2, (0, x3)), (3, (0, l1))]) (st1 := [(0, 6), (0, l1)]) (h1 := h) rfl ?_
    refine jT.if2 (st_Ps_isSame) rfl (tgt := 58) (by decide) (fun hc => ?_) (fun hc => ?_)
    · have hc : 6 ≤ l1 := hc
      try rw [if_pos hc] at hv
      refine jG.subp [] (L1 := []) rfl ?_
      exact hk _ _ hv
    · have hc : ¬ (6 ≤ l1) := hc
      try rw [if_neg hc] at hv
      refine jG.blk (st_Ps_isSame) 5 (pc1 := 37) (L1 := [(0, (2, ((9 : Nat) : Int))), (1, (0, x2)), (2, (0, x3)), (3, (0, l1))]) (st1 := [(0, jadd x2 l1), (2, ((10 : Nat) : Int))]) (h1 := h) rfl ?_
      obtain ⟨hg, hv⟩ := jgd_some hv
      refine jT.lald (a := 10) (st_Ps_isSame) rfl rfl (by decide) hg.1 hg.2 ?_
      refine jG.blk (st_Ps_isSame) 5 (pc1 := 45) (L1 := [(0, (2, ((9 : Nat) : Int))), (1, (0, x2)), (2, (0, x3)), (3, (0, l1))]) (st1 := [(0, jadd x3 l1), (2, ((10 : Nat) : Int)), (1, h 10 (jadd x2 l1).toNat)]) (h1 := h) rfl ?_
      obtain ⟨hg, hv⟩ := jgd_some hv
      refine jT.lald (a := 10) (st_Ps_isSame) rfl rfl (by decide) hg.1 hg.2 ?_
      refine jG.blk (st_Ps_isSame) 1 (pc1 := 47) (L1 := [(0, (2, ((9 : Nat) : Int))), (1, (0, x2)), (2, (0, x3)), (3, (0, l1))]) (st1 := [(0, jcmp (h 10 (jadd x2 l1).toNat) (h 10 (jadd x3 l1).toNat))]) (h1 := h) rfl ?_
      refine jT.if1 (st_Ps_isSame) rfl (tgt := 52) (by decide) (fun hc => ?_) (fun hc => ?_)
      · have hc : jcmp (h 10 (jadd x2 l1).toNat) (h 10 (jadd x3 l1).toNat) = 0 := hc
        try rw [if_pos hc] at hv
        refine jG.blk (st_Ps_isSame) 1 (pc1 := 55) (L1 := [(3, (0, jadd l1 1)), (0, (2, ((9 : Nat) : Int))), (1, (0, x2)), (2, (0, x3))]) (st1 := []) (h1 := h) rfl ?_
        refine jT.goto (st_Ps_isSame) rfl (tgt := 24) (by decide) ?_
        refine jG.subp [1, 2, 3, 0] (L1 := [(0, (2, ((9 : Nat) : Int))), (1, (0, x2)), (2, (0, x3)), (3, (0, jadd l1 1))]) rfl ?_
        exact ih _ _ hv
      · have hc : ¬ (jcmp (h 10 (jadd x2 l1).toNat) (h 10 (jadd x3 l1).toNat) = 0) := hc
        try rw [if_neg hc] at hv
        refine jG.blk (st_Ps_isSame) 1 (pc1 := 51) (L1 := [(0, (2, ((9 : Nat) : Int))), (1, (0, x2)), (2, (0, x3)), (3, (0, l1))]) (st1 := [(0, 0)]) (h1 := h) rfl ?_
        cases hv
        exact jT.iret (st_Ps_isSame) rfl (Or.inl rfl)
set_option maxRecDepth 100000 in
set_option maxHeartbeats 4000000 in
theorem C_Ps_isSame {E : jE} {h : jH} {a1 : Int} {a2 : Int} {res : Int} (hv : f_Ps_isSame h a1 a2 = some res) : jC E M_Ps_isSame [(2, ((9 : Nat) : Int)), (0, a1), (0, a2)] h (some (0, res)) h := by
  refine jC.of ok_Ps_isSame.1 (by rw [jlg]; exact Nat.le_of_ble_eq_true rfl) ?_
  show jG E _ 0 [(0, (2, ((9 : Nat) : Int))), (1, (0, a1)), (2, (0, a2))] [] h _ _
  unfold f_Ps_isSame at hv
  refine jG.blk (st_Ps_isSame) 4 (pc1 := 7) (L1 := [(0, (2, ((9 : Nat) : Int))), (1, (0, a1)), (2, (0, a2))]) (st1 := [(0, 1806), (0, jadd a1 6)]) (h1 := h) rfl ?_
  refine jT.if2 (st_Ps_isSame) rfl (tgt := 20) (by decide) (fun hc => ?_) (fun hc => ?_)
  · have hc : 1806 < jadd a1 6 := hc
    try rw [if_pos hc] at hv
    refine jG.blk (st_Ps_isSame) 1 (pc1 := 21) (L1 := [(0, (2, ((9 : Nat) : Int))), (1, (0, a1)), (2, (0, a2))]) (st1 := [(0, 0)]) (h1 := h) rfl ?_
    cases hv
    exact jT.iret (st_Ps_isSame) rfl (Or.inl rfl)
  · have hc : ¬ (1806 < jadd a1 6) := hc
    try rw [if_neg hc] at hv
    refine jG.blk (st_Ps_isSame) 4 (pc1 := 17) (L1 := [(0, (2, ((9 : Nat) : Int))), (1, (0, a1)), (2, (0, a2))]) (st1 := [(0, 1806), (0, jadd a2 6)]) (h1 := h) rfl ?_
    refine jT.if2 (st_Ps_isSame) rfl (tgt := 22) (by decide) (fun hc => ?_) (fun hc => ?_)
    · have hc : jadd a2 6 ≤ 1806 := hc
      try rw [if_pos hc] at hv
      refine jG.blk (st_Ps_isSame) 2 (pc1 := 24) (L1 := [(3, (0, 0)), (0, (2, ((9 : Nat) : Int))), (1, (0, a1)), (2, (0, a2))]) (st1 := []) (h1 := h) rfl ?_
      refine jG.subp [1, 2, 3, 0] (L1 := [(0, (2, ((9 : Nat) : Int))), (1, (0, a1)), (2, (0, a2)), (3, (0, 0))]) rfl ?_
      refine f_Ps_isSame_lp24_ok E (fun l4 res hv => ?_) 1000 _ _ hv
      · refine jG.blk (st_Ps_isSame) 1 (pc1 := 59) (L1 := []) (st1 := [(0, 1)]) (h1 := h) rfl ?_
        cases hv
        exact jT.iret (st_Ps_isSame) rfl (Or.inr rfl)
    · have hc : ¬ (jadd a2 6 ≤ 1806) := hc
      try rw [if_neg hc] at hv
      refine jG.blk (st_Ps_isSame) 1 (pc1 := 21) (L1 := [(0, (2, ((9 : Nat) : Int))), (1, (0, a1)), (2, (0, a2))]) (st1 := [(0, 0)]) (h1 := h) rfl ?_
      cases hv
      exact jT.iret (st_Ps_isSame) rfl (Or.inl rfl)
def f_Ps_countSame_lp4 (h : jH) (x3 : Int) (k : Int → Int → Option (Int)) : Nat → Int → Int → Option (Int)
  | 0, _, _ => none
  | n + 1, l1, l2 => if x3 < l2 then k l1 l2 else (f_Ps_isSame h (jmul 6 l2) (jmul 6 x3)).bind fun v4 => f_Ps_countSame_lp4 h x3 k n (if v4 = 0 then l1 else jadd l1 1) (jadd l2 1)
def f_Ps_countSame (h : jH) (a1 : Int) : Option (Int) := f_Ps_countSame_lp4 h a1 (fun l5 l6 => some l5) 1000 0 0
set_option maxRecDepth 100000 in
set_option maxHeartbeats 4000000 in
theorem f_Ps_countSame_lp4_ok (E : jE) {h : jH} {x3 : Int} {k : Int → Int → Option (Int)} (hk : ∀ (l1 : Int) (l2 : Int) (res : Int), k l1 l2 = some res → jG E M_Ps_countSame 33 [(2, (0, l1))] [] h (some (0, res)) h) : ∀ (n : Nat) (l1 : Int) (l2 : Int) (res : Int), f_Ps_countSame_lp4 h x3 k n l1 l2 = some res → jG E M_Ps_countSame 4 [(0, (2, ((9 : Nat) : Int))), (1, (0, x3)), (2, (0, l1)), (3, (0, l2))] [] h (some (0, res)) h := by
  intro n
  induction n with
  | zero => intro l1 l2 res hv; cases hv
  | succ n ih =>
    intro l1 l2 res hv
    rw [f_Ps_countSame_lp4] at hv
    refine jG.blk (st_Ps_countSame) 2 (pc1 := 6) (L1 := [(0, (2, ((9 : Nat) : Int))), (1, (0, x3)), (2, (0, l1)), (3, (0, l2))]) (st1 := [(0, x3), (0, l2)]) (h1 := h) rfl ?_
    refine jT.if2 (st_Ps_countSame) rfl (tgt := 33) (by decide) (fun hc => ?_) (fun hc => ?_)
    · have hc : x3 < l2 := hc
      try rw [if_pos hc] at hv
      refine jG.subp [2] (L1 := [(2, (0, l1))]) rfl ?_
      exact hk _ _ _ hv
    · have hc : ¬ (x3 < l2) := hc
      try rw [if_neg hc] at hv
      refine jG.blk (st_Ps_countSame) 7 (pc1 := 18) (L1 := [(0, (2, ((9 : Nat) : Int))), (1, (0, x3)), (2, (0, l1)), (3, (0, l2))]) (st1 := [(0, jmul 6 x3), (0, jmul 6 l2), (2, ((9 : Nat) : Int))]) (h1 := h) rfl ?_
      obtain ⟨v4, hq, hv⟩ := Option.bind_eq_some_iff.mp hv
      refine jT.cV (M1 := M_Ps_isSame) (2, ((9 : Nat) : Int)) [(0, jmul 6 l2), (0, jmul 6 x3)] [] (st_Ps_countSame) rfl rfl ok_Ps_isSame rfl (Or.inl ⟨rfl, _, _, _, rfl, rfl⟩) (Nat.le_of_ble_eq_true rfl) (Nat.le_of_ble_eq_true rfl) rfl (Nat.le_of_ble_eq_true rfl) (C_Ps_isSame hq) ?_
      show jG E _ 21 [(0, (2, ((9 : Nat) : Int))), (1, (0, x3)), (2, (0, l1)), (3, (0, l2))] [(0, v4)] h _ _
      refine jT.if1 (st_Ps_countSame) rfl (tgt := 27) (by decide) (fun hc => ?_) (fun hc => ?_)
      · have hc : v4 = 0 := hc
        try rw [if_pos hc] at hv
        refine jG.blk (st_Ps_countSame) 1 (pc1 := 30) (L1 := [(3, (0, jadd l2 1)), (0, (2, ((9 : Nat) : Int))), (1, (0, x3)), (2, (0, l1))]) (st1 := []) (h1 := h) rfl ?_
        refine jT.goto (st_Ps_countSame) rfl (tgt := 4) (by decide) ?_
        refine jG.subp [1, 2, 3, 0] (L1 := [(0, (2, ((9 : Nat) : Int))), (1, (0, x3)), (2, (0, l1)), (3, (0, jadd l2 1))]) rfl ?_
        exact ih _ _ _ hv
      · have hc : ¬ (v4 = 0) := hc
        try rw [if_neg hc] at hv
        refine jG.blk (st_Ps_countSame) 2 (pc1 := 30) (L1 := [(3, (0, jadd l2 1)), (2, (0, jadd l1 1)), (0, (2, ((9 : Nat) : Int))), (1, (0, x3))]) (st1 := []) (h1 := h) rfl ?_
        refine jT.goto (st_Ps_countSame) rfl (tgt := 4) (by decide) ?_
        refine jG.subp [2, 3, 1, 0] (L1 := [(0, (2, ((9 : Nat) : Int))), (1, (0, x3)), (2, (0, jadd l1 1)), (3, (0, jadd l2 1))]) rfl ?_
        exact ih _ _ _ hv
set_option maxRecDepth 100000 in
set_option maxHeartbeats 4000000 in
theorem C_Ps_countSame {E : jE} {h : jH} {a1 : Int} {res : Int} (hv : f_Ps_countSame h a1 = some res) : jC E M_Ps_countSame [(2, ((9 : Nat) : Int)), (0, a1)] h (some (0, res)) h := by
  refine jC.of ok_Ps_countSame.1 (by rw [jlg]; exact Nat.le_of_ble_eq_true rfl) ?_
  show jG E _ 0 [(0, (2, ((9 : Nat) : Int))), (1, (0, a1))] [] h _ _
  unfold f_Ps_countSame at hv
  refine jG.blk (st_Ps_countSame) 4 (pc1 := 4) (L1 := [(3, (0, 0)), (2, (0, 0)), (0, (2, ((9 : Nat) : Int))), (1, (0, a1))]) (st1 := []) (h1 := h) rfl ?_
  refine jG.subp [2, 3, 1, 0] (L1 := [(0, (2, ((9 : Nat) : Int))), (1, (0, a1)), (2, (0, 0)), (3, (0, 0))]) rfl ?_
  refine f_Ps_countSame_lp4_ok E (fun l5 l6 res hv => ?_) 1000 _ _ _ hv
  · refine jG.blk (st_Ps_countSame) 1 (pc1 := 34) (L1 := [(2, (0, l5))]) (st1 := [(0, l5)]) (h1 := h) rfl ?_
    cases hv
    exact jT.iret (st_Ps_countSame) rfl trivial
