def f_Bd_enterState (r : Nat) (h : jH) (a1 : Int) (a2 : Int) (a3 : Int) (a4 : Int) : Option (jH) := some (jup (jup (jup (jup h r 1 a1) r 2 a2) r 3 a3) r 4 a4)
set_option maxRecDepth 100000 in
set_option maxHeartbeats 4000000 in
theorem C_Bd_enterState {E : jE} {r : Nat} (hr : r = 2 ∨ r = 20) {h : jH} {a1 : Int} {a2 : Int} {a3 : Int} {a4 : Int} {res : jH} (hv : f_Bd_enterState r h a1 a2 a3 a4 = some res) : jC E M_Bd_enterState [(2, ((r : Nat) : Int)), (0, a1), (0, a2), (0, a3), (0, a4)] h none res := by
  rcases hr with rfl | rfl
  · refine jC.of ok_Bd_enterState.1 (by rw [jlg]; exact Nat.le_of_ble_eq_true rfl) ?_
    show jG E _ 0 [(0, (2, ((2 : Nat) : Int))), (1, (0, a1)), (2, (0, a2)), (3, (0, a3)), (4, (0, a4))] [] h _ _
    unfold f_Bd_enterState at hv
    refine jG.blk (st_Bd_enterState) 12 (pc1 := 21) (L1 := [(0, (2, ((2 : Nat) : Int))), (1, (0, a1)), (2, (0, a2)), (3, (0, a3)), (4, (0, a4))]) (st1 := []) (h1 := jup (jup (jup (jup h 2 1 a1) 2 2 a2) 2 3 a3) 2 4 a4) rfl ?_
    cases hv
    exact jT.vret (st_Bd_enterState) rfl trivial
  · refine jC.of ok_Bd_enterState.1 (by rw [jlg]; exact Nat.le_of_ble_eq_true rfl) ?_
    show jG E _ 0 [(0, (2, ((20 : Nat) : Int))), (1, (0, a1)), (2, (0, a2)), (3, (0, a3)), (4, (0, a4))] [] h _ _
    unfold f_Bd_enterState at hv
    refine jG.blk (st_Bd_enterState) 12 (pc1 := 21) (L1 := [(0, (2, ((20 : Nat) : Int))), (1, (0, a1)), (2, (0, a2)), (3, (0, a3)), (4, (0, a4))]) (st1 := []) (h1 := jup (jup (jup (jup h 20 1 a1) 20 2 a2) 20 3 a3) 20 4 a4) rfl ?_
    cases hv
    exact jT.vret (st_Bd_enterState) rfl trivial
def f_Bd_wipe (r : Nat) (h : jH) : Option (jH) := (f_Ja_fillI (r + 1) h 0).bind fun v1 => (f_Bd_enterState r v1 0 0 (-1) 0).bind fun v2 => some v2
set_option maxRecDepth 100000 in
set_option maxHeartbeats 4000000 in
theorem C_Bd_wipe {E : jE} {r : Nat} (hr : r = 2 ∨ r = 20) {h : jH} {res : jH} (hv : f_Bd_wipe r h = some res) : jC E M_Bd_wipe [(2, ((r : Nat) : Int))] h none res := by
  rcases hr with rfl | rfl
  · refine jC.of ok_Bd_wipe.1 (by rw [jlg]; exact Nat.le_of_ble_eq_true rfl) ?_
    show jG E _ 0 [(0, (2, ((2 : Nat) : Int)))] [] h _ _
    unfold f_Bd_wipe at hv
    refine jG.blk (st_Bd_wipe) 3 (pc1 := 5) (L1 := [(0, (2, ((2 : Nat) : Int)))]) (st1 := [(0, 0), (2, ((2 + 1 : Nat) : Int))]) (h1 := h) rfl ?_
    obtain ⟨v1, hq, hv⟩ := Option.bind_eq_some_iff.mp hv
    refine jT.cS (M1 := M_Ja_fillI) [(2, ((2 + 1 : Nat) : Int)), (0, 0)] [] (st_Bd_wipe) rfl rfl ok_Ja_fillI rfl (Nat.le_of_ble_eq_true rfl) (Nat.le_of_ble_eq_true rfl) rfl (Nat.le_of_ble_eq_true rfl) (C_Ja_fillI (by decide) hq) ?_
    show jG E _ 8 [(0, (2, ((2 : Nat) : Int)))] [] v1 _ _
    refine jG.blk (st_Bd_wipe) 5 (pc1 := 13) (L1 := [(0, (2, ((2 : Nat) : Int)))]) (st1 := [(0, 0), (0, (-1)), (0, 0), (0, 0), (2, ((2 : Nat) : Int))]) (h1 := v1) rfl ?_
    obtain ⟨v2, hq, hv⟩ := Option.bind_eq_some_iff.mp hv
    refine jT.cV (M1 := M_Bd_enterState) (2, ((2 : Nat) : Int)) [(0, 0), (0, 0), (0, (-1)), (0, 0)] [] (st_Bd_wipe) rfl rfl ok_Bd_enterState rfl (Or.inl ⟨rfl, _, _, _, rfl, rfl⟩) (Nat.le_of_ble_eq_true rfl) (Nat.le_of_ble_eq_true rfl) rfl (Nat.le_of_ble_eq_true rfl) (C_Bd_enterState (by decide) hq) ?_
    show jG E _ 16 [(0, (2, ((2 : Nat) : Int)))] [] v2 _ _
    cases hv
    exact jT.vret (st_Bd_wipe) rfl trivial
  · refine jC.of ok_Bd_wipe.1 (by rw [jlg]; exact Nat.le_of_ble_eq_true rfl) ?_
    show jG E _ 0 [(0, (2, ((20 : Nat) : Int)))] [] h _ _
    unfold f_Bd_wipe at hv
    refine jG.blk (st_Bd_wipe) 3 (pc1 := 5) (L1 := [(0, (2, ((20 : Nat) : Int)))]) (st1 := [(0, 0), (2, ((20 + 1 : Nat) : Int))]) (h1 := h) rfl ?_
    obtain ⟨v1, hq, hv⟩ := Option.bind_eq_some_iff.mp hv
    refine jT.cS (M1 := M_Ja_fillI) [(2, ((20 + 1 : Nat) : Int)), (0, 0)] [] (st_Bd_wipe) rfl rfl ok_Ja_fillI rfl (Nat.le_of_ble_eq_true rfl) (Nat.le_of_ble_eq_true rfl) rfl (Nat.le_of_ble_eq_true rfl) (C_Ja_fillI (by decide) hq) ?_
    show jG E _ 8 [(0, (2, ((20 : Nat) : Int)))] [] v1 _ _
    refine jG.blk (st_Bd_wipe) 5 (pc1 := 13) (L1 := [(0, (2, ((20 : Nat) : Int)))]) (st1 := [(0, 0), (0, (-1)), (0, 0), (0, 0), (2, ((20 : Nat) : Int))]) (h1 := v1) rfl ?_
    obtain ⟨v2, hq, hv⟩ := Option.bind_eq_some_iff.mp hv
    refine jT.cV (M1 := M_Bd_enterState) (2, ((20 : Nat) : Int)) [(0, 0), (0, 0), (0, (-1)), (0, 0)] [] (st_Bd_wipe) rfl rfl ok_Bd_enterState rfl (Or.inl ⟨rfl, _, _, _, rfl, rfl⟩) (Nat.le_of_ble_eq_true rfl) (Nat.le_of_ble_eq_true rfl) rfl (Nat.le_of_ble_eq_true rfl) (C_Bd_enterState (by decide) hq) ?_
    show jG E _ 16 [(0, (2, ((20 : Nat) : Int)))] [] v2 _ _
    cases hv
    exact jT.vret (st_Bd_wipe) rfl trivial
def f_Bd_copyFrom (r : Nat) (o : Nat) (h : jH) : Option (jH) := (f_Bd_enterState r (jcp h (r + 1) (fun k => if k < 64 then h (o + 1) k else h (r + 1) k)) ((jcp h (r + 1) (fun k => if k < 64 then h (o + 1) k else h (r + 1) k)) o 1) ((jcp h (r + 1) (fun k => if k < 64 then h (o + 1) k else h (r + 1) k)) o 2) ((jcp h (r + 1) (fun k => if k < 64 then h (o + 1) k else h (r + 1) k)) o 3) ((jcp h (r + 1) (fun k => if k < 64 then h (o + 1) k else h (r + 1) k)) o 4)).bind fun v1 => some v1
set_option maxRecDepth 100000 in
set_option maxHeartbeats 4000000 in
theorem C_Bd_copyFrom {E : jE} {r : Nat} {o : Nat} (hr : (r = 2 ∧ o = 20) ∨ (r = 20 ∧ o = 2)) {h : jH} {res : jH} (hv : f_Bd_copyFrom r o h = some res) : jC E M_Bd_copyFrom [(2, ((r : Nat) : Int)), (2, ((o : Nat) : Int))] h none res := by
  rcases hr with ⟨rfl, rfl⟩ | ⟨rfl, rfl⟩
  · refine jC.of ok_Bd_copyFrom.1 (by rw [jlg]; exact Nat.le_of_ble_eq_true rfl) ?_
    show jG E _ 0 [(0, (2, ((2 : Nat) : Int))), (1, (2, ((20 : Nat) : Int)))] [] h _ _
    unfold f_Bd_copyFrom at hv
    refine jG.blk (st_Bd_copyFrom) 7 (pc1 := 12) (L1 := [(0, (2, ((2 : Nat) : Int))), (1, (2, ((20 : Nat) : Int)))]) (st1 := [(0, 64), (0, 0), (2, ((2 + 1 : Nat) : Int)), (0, 0), (2, ((20 + 1 : Nat) : Int))]) (h1 := h) rfl ?_
    refine jT.acp (a0 := 20 + 1) (a := 2 + 1) (rest := []) (st_Bd_copyFrom) rfl rfl rfl (by decide) (by decide) (by decide) (by decide) (Nat.le_of_ble_eq_true rfl) ?_
    refine jG.blk (st_Bd_copyFrom) 9 (pc1 := 32) (L1 := [(0, (2, ((2 : Nat) : Int))), (1, (2, ((20 : Nat) : Int)))]) (st1 := [(0, (jcp h (2 + 1) (fun k => if k < 64 then h (20 + 1) k else h (2 + 1) k)) 20 4), (0, (jcp h (2 + 1) (fun k => if k < 64 then h (20 + 1) k else h (2 + 1) k)) 20 3), (0, (jcp h (2 + 1) (fun k => if k < 64 then h (20 + 1) k else h (2 + 1) k)) 20 2), (0, (jcp h (2 + 1) (fun k => if k < 64 then h (20 + 1) k else h (2 + 1) k)) 20 1), (2, ((2 : Nat) : Int))]) (h1 := jcp h (2 + 1) (fun k => if k < 64 then h (20 + 1) k else h (2 + 1) k)) rfl ?_
    obtain ⟨v1, hq, hv⟩ := Option.bind_eq_some_iff.mp hv
    refine jT.cV (M1 := M_Bd_enterState) (2, ((2 : Nat) : Int)) [(0, (jcp h (2 + 1) (fun k => if k < 64 then h (20 + 1) k else h (2 + 1) k)) 20 1), (0, (jcp h (2 + 1) (fun k => if k < 64 then h (20 + 1) k else h (2 + 1) k)) 20 2), (0, (jcp h (2 + 1) (fun k => if k < 64 then h (20 + 1) k else h (2 + 1) k)) 20 3), (0, (jcp h (2 + 1) (fun k => if k < 64 then h (20 + 1) k else h (2 + 1) k)) 20 4)] [] (st_Bd_copyFrom) rfl rfl ok_Bd_enterState rfl (Or.inl ⟨rfl, _, _, _, rfl, rfl⟩) (Nat.le_of_ble_eq_true rfl) (Nat.le_of_ble_eq_true rfl) rfl (Nat.le_of_ble_eq_true rfl) (C_Bd_enterState (by decide) hq) ?_
    show jG E _ 35 [(0, (2, ((2 : Nat) : Int))), (1, (2, ((20 : Nat) : Int)))] [] v1 _ _
    cases hv
    exact jT.vret (st_Bd_copyFrom) rfl trivial
  · refine jC.of ok_Bd_copyFrom.1 (by rw [jlg]; exact Nat.le_of_ble_eq_true rfl) ?_
    show jG E _ 0 [(0, (2, ((20 : Nat) : Int))), (1, (2, ((2 : Nat) : Int)))] [] h _ _
    unfold f_Bd_copyFrom at hv
    refine jG.blk (st_Bd_copyFrom) 7 (pc1 := 12) (L1 := [(0, (2, ((20 : Nat) : Int))), (1, (2, ((2 : Nat) : Int)))]) (st1 := [(0, 64), (0, 0), (2, ((20 + 1 : Nat) : Int)), (0, 0), (2, ((2 + 1 : Nat) : Int))]) (h1 := h) rfl ?_
    refine jT.acp (a0 := 2 + 1) (a := 20 + 1) (rest := []) (st_Bd_copyFrom) rfl rfl rfl (by decide) (by decide) (by decide) (by decide) (Nat.le_of_ble_eq_true rfl) ?_
    refine jG.blk (st_Bd_copyFrom) 9 (pc1 := 32) (L1 := [(0, (2, ((20 : Nat) : Int))), (1, (2, ((2 : Nat) : Int)))]) (st1 := [(0, (jcp h (20 + 1) (fun k => if k < 64 then h (2 + 1) k else h (20 + 1) k)) 2 4), (0, (jcp h (20 + 1) (fun k => if k < 64 then h (2 + 1) k else h (20 + 1) k)) 2 3), (0, (jcp h (20 + 1) (fun k => if k < 64 then h (2 + 1) k else h (20 + 1) k)) 2 2), (0, (jcp h (20 + 1) (fun k => if k < 64 then h (2 + 1) k else h (20 + 1) k)) 2 1), (2, ((20 : Nat) : Int))]) (h1 := jcp h (20 + 1) (fun k => if k < 64 then h (2 + 1) k else h (20 + 1) k)) rfl ?_
    obtain ⟨v1, hq, hv⟩ := Option.bind_eq_some_iff.mp hv
    refine jT.cV (M1 := M_Bd_enterState) (2, ((20 : Nat) : Int)) [(0, (jcp h (20 + 1) (fun k => if k < 64 then h (2 + 1) k else h (20 + 1) k)) 2 1), (0, (jcp h (20 + 1) (fun k => if k < 64 then h (2 + 1) k else h (20 + 1) k)) 2 2), (0, (jcp h (20 + 1) (fun k => if k < 64 then h (2 + 1) k else h (20 + 1) k)) 2 3), (0, (jcp h (20 + 1) (fun k => if k < 64 then h (2 + 1) k else h (20 + 1) k)) 2 4)] [] (st_Bd_copyFrom) rfl rfl ok_Bd_enterState rfl (Or.inl ⟨rfl, _, _, _, rfl, rfl⟩) (Nat.le_of_ble_eq_true rfl) (Nat.le_of_ble_eq_true rfl) rfl (Nat.le_of_ble_eq_true rfl) (C_Bd_enterState (by decide) hq) ?_
    show jG E _ 35 [(0, (2, ((20 : Nat) : Int))), (1, (2, ((2 : Nat) : Int)))] [] v1 _ _
    cases hv
    exact jT.vret (st_Bd_copyFrom) rfl trivial
def f_Bd_hasKingsAndPawnsRight_j65_6 (rc : Int → Int → Int → Option (Int)) (k : Int → Int → Int → Option (Int)) (h : jH) (l10 : Int) (l11 : Int) (l12 : Int) (s13 : Int) (s14 : Int) : Option (Int) := (f_X_pieceOf h 6 1).bind fun v15 => rc (jadd s14 s13) (if l12 = v15 then jadd l10 1 else jadd l10 0) (jadd l11 1)
def f_Bd_hasKingsAndPawnsRight_j48_6 (rc : Int → Int → Int → Option (Int)) (k : Int → Int → Int → Option (Int)) (h : jH) (l5 : Int) (l6 : Int) (l7 : Int) (l8 : Int) : Option (Int) := (f_X_pieceOf h 6 0).bind fun v9 => f_Bd_hasKingsAndPawnsRight_j65_6 rc k h l6 l7 l8 (if l8 = v9 then 1 else 0) l5
def f_Bd_hasKingsAndPawnsRight_lp6 (h : jH) (k : Int → Int → Int → Option (Int)) : Nat → Int → Int → Int → Option (Int)
  | 0, _, _, _ => none
  | n + 1, l1, l2, l3 => if 64 ≤ l3 then k l1 l2 l3 else jgd (0 ≤ l3 ∧ l3 < 64) ((f_X_kindOf h (h 21 l3.toNat)).bind fun v4 => if v4 = 1 then if jshr l3 3 = 0 then some 0 else if jshr l3 3 = 7 then some 0 else f_Bd_hasKingsAndPawnsRight_j48_6 (f_Bd_hasKingsAndPawnsRight_lp6 h k n) k h l1 l2 l3 (h 21 l3.toNat) else f_Bd_hasKingsAndPawnsRight_j48_6 (f_Bd_hasKingsAndPawnsRight_lp6 h k n) k h l1 l2 l3 (h 21 l3.toNat))
def f_Bd_hasKingsAndPawnsRight (h : jH) : Option (Int) := f_Bd_hasKingsAndPawnsRight_lp6 h (fun l16 l17 l18 => some (if l16 = 1 then if l17 = 1 then 1 else 0 else 0)) 1000 0 0 0
set_option maxRecDepth 100000 in
set_option maxHeartbeats 4000000 in
theorem f_Bd_hasKingsAndPawnsRight_j65_6_ok (E : jE) {rc : Int → Int → Int → Option (Int)} {k : Int → Int → Int → Option (Int)} {h : jH} (hrc : ∀ (l1 : Int) (l2 : Int) (l3 : Int) (res : Int), rc l1 l2 l3 = some res → jG E M_Bd_hasKingsAndPawnsRight 6 [(0, (2, ((20 : Nat) : Int))), (1, (0, l1)), (2, (0, l2)), (3, (0, l3))] [] h (some (0, res)) h) (hk : ∀ (l1 : Int) (l2 : Int) (l3 : Int) (res : Int), k l1 l2 l3 = some res → jG E M_Bd_hasKingsAndPawnsRight 92 [(1, (0, l1)), (2, (0, l2))] [] h (some (0, res)) h) {l10 : Int} {l11 : Int} {l12 : Int} {s13 : Int} {s14 : Int} {res : Int} (hv : f_Bd_hasKingsAndPawnsRight_j65_6 rc k h l10 l11 l12 s13 s14 = some res) : jG E M_Bd_hasKingsAndPawnsRight 65 [(0, (2, ((20 : Nat) : Int))), (2, (0, l10)), (3, (0, l11)), (4, (0, l12))] [(0, s13), (0, s14)] h (some (0, res)) h := by
  unfold f_Bd_hasKingsAndPawnsRight_j65_6 at hv
  refine jG.blk (st_Bd_hasKingsAndPawnsRight) 6 (pc1 := 73) (L1 := [(1, (0, jadd s14 s13)), (0, (2, ((20 : Nat) : Int))), (2, (0, l10)), (3, (0, l11)), (4, (0, l12))]) (st1 := [(0, 1), (0, 6), (0, l12), (0, l10)]) (h1 := h) rfl ?_
  obtain ⟨v15, hq, hv⟩ := Option.bind_eq_some_iff.mp hv
  refine jT.cSN (M1 := M_X_pieceOf) [(0, 6), (0, 1)] [(0, l12), (0, l10)] (st_Bd_hasKingsAndPawnsRight) rfl rfl ok_X_pieceOf rfl (Nat.le_of_ble_eq_true rfl) (Nat.le_of_ble_eq_true rfl) rfl (Nat.le_of_ble_eq_true rfl) (C_X_pieceOf hq) ?_
  show jG E _ 76 [(1, (0, jadd s14 s13)), (0, (2, ((20 : Nat) : Int))), (2, (0, l10)), (3, (0, l11)), (4, (0, l12))] [(0, v15), (0, l12), (0, l10)] h _ _
  refine jT.if2 (st_Bd_hasKingsAndPawnsRight) rfl (tgt := 83) (by decide) (fun hc => ?_) (fun hc => ?_)
  · have hc : ¬ (l12 = v15) := hc
    try rw [if_neg hc] at hv
    refine jG.blk (st_Bd_hasKingsAndPawnsRight) 4 (pc1 := 89) (L1 := [(3, (0, jadd l11 1)), (2, (0, jadd l10 0)), (1, (0, jadd s14 s13)), (0, (2, ((20 : Nat) : Int))), (4, (0, l12))]) (st1 := []) (h1 := h) rfl ?_
    refine jT.goto (st_Bd_hasKingsAndPawnsRight) rfl (tgt := 6) (by decide) ?_
    refine jG.subp [3, 2, 1, 0] (L1 := [(0, (2, ((20 : Nat) : Int))), (1, (0, jadd s14 s13)), (2, (0, jadd l10 0)), (3, (0, jadd l11 1))]) rfl ?_
    exact hrc _ _ _ _ hv
  · have hc : l12 = v15 := Decidable.not_not.mp hc
    try rw [if_pos hc] at hv
    refine jG.blk (st_Bd_hasKingsAndPawnsRight) 1 (pc1 := 80) (L1 := [(1, (0, jadd s14 s13)), (0, (2, ((20 : Nat) : Int))), (2, (0, l10)), (3, (0, l11)), (4, (0, l12))]) (st1 := [(0, 1), (0, l10)]) (h1 := h) rfl ?_
    refine jT.goto (st_Bd_hasKingsAndPawnsRight) rfl (tgt := 84) (by decide) ?_
    refine jG.blk (st_Bd_hasKingsAndPawnsRight) 3 (pc1 := 89) (L1 := [(3, (0, jadd l11 1)), (2, (0, jadd l10 1)), (1, (0, jadd s14 s13)), (0, (2, ((20 : Nat) : Int))), (4, (0, l12))]) (st1 := []) (h1 := h) rfl ?_
    refine jT.goto (st_Bd_hasKingsAndPawnsRight) rfl (tgt := 6) (by decide) ?_
    refine jG.subp [3, 2, 1, 0] (L1 := [(0, (2, ((20 : Nat) : Int))), (1, (0, jadd s14 s13)), (2, (0, jadd l10 1)), (3, (0, jadd l11 1))]) rfl ?_
    exact hrc _ _ _ _ hv
set_option maxRecDepth 100000 in
set_option maxHeartbeats 4000000 in
theorem f_Bd_hasKingsAndPawnsRight_j48_6_ok (E : jE) {rc : Int → Int → Int → Option (Int)} {k : Int → Int → Int → Option (Int)} {h : jH} (hrc : ∀ (l1 : Int) (l2 : Int) (l3 : Int) (res : Int), rc l1 l2 l3 = some res → jG E M_Bd_hasKingsAndPawnsRight 6 [(0, (2, ((20 : Nat) : Int))), (1, (0, l1)), (2, (0, l2)), (3, (0, l3))] [] h (some (0, res)) h) (hk : ∀ (l1 : Int) (l2 : Int) (l3 : Int) (res : Int), k l1 l2 l3 = some res → jG E M_Bd_hasKingsAndPawnsRight 92 [(1, (0, l1)), (2, (0, l2))] [] h (some (0, res)) h) {l5 : Int} {l6 : Int} {l7 : Int} {l8 : Int} {res : Int} (hv : f_Bd_hasKingsAndPawnsRight_j48_6 rc k h l5 l6 l7 l8 = some res) : jG E M_Bd_hasKingsAndPawnsRight 48 [(0, (2, ((20 : Nat) : Int))), (1, (0, l5)), (2, (0, l6)), (3, (0, l7)), (4, (0, l8))] [] h (some (0, res)) h := by
  unfold f_Bd_hasKingsAndPawnsRight_j48_6 at hv
  refine jG.blk (st_Bd_hasKingsAndPawnsRight) 4 (pc1 := 54) (L1 := [(0, (2, ((20 : Nat) : Int))), (1, (0, l5)), (2, (0, l6)), (3, (0, l7)), (4, (0, l8))]) (st1 := [(0, 0), (0, 6), (0, l8), (0, l5)]) (h1 := h) rfl ?_
  obtain ⟨v9, hq, hv⟩ := Option.bind_eq_some_iff.mp hv
  refine jT.cSN (M1 := M_X_pieceOf) [(0, 6), (0, 0)] [(0, l8), (0, l5)] (st_Bd_hasKingsAndPawnsRight) rfl rfl ok_X_pieceOf rfl (Nat.le_of_ble_eq_true rfl) (Nat.le_of_ble_eq_true rfl) rfl (Nat.le_of_ble_eq_true rfl) (C_X_pieceOf hq) ?_
  show jG E _ 57 [(0, (2, ((20 : Nat) : Int))), (1, (0, l5)), (2, (0, l6)), (3, (0, l7)), (4, (0, l8))] [(0, v9), (0, l8), (0, l5)] h _ _
  refine jT.if2 (st_Bd_hasKingsAndPawnsRight) rfl (tgt := 64) (by decide) (fun hc => ?_) (fun hc => ?_)
  · have hc : ¬ (l8 = v9) := hc
    try rw [if_neg hc] at hv
    refine jG.blk (st_Bd_hasKingsAndPawnsRight) 1 (pc1 := 65) (L1 := [(0, (2, ((20 : Nat) : Int))), (1, (0, l5)), (2, (0, l6)), (3, (0, l7)), (4, (0, l8))]) (st1 := [(0, 0), (0, l5)]) (h1 := h) rfl ?_
    refine jG.subp [0, 2, 3, 4] (L1 := [(0, (2, ((20 : Nat) : Int))), (2, (0, l6)), (3, (0, l7)), (4, (0, l8))]) rfl ?_
    exact f_Bd_hasKingsAndPawnsRight_j65_6_ok E hrc hk hv
  · have hc : l8 = v9 := Decidable.not_not.mp hc
    try rw [if_pos hc] at hv
    refine jG.blk (st_Bd_hasKingsAndPawnsRight) 1 (pc1 := 61) (L1 := [(0, (2, ((20 : Nat) : Int))), (1, (0, l5)), (2, (0, l6)), (3, (0, l7)), (4, (0, l8))]) (st1 := [(0, 1), (0, l5)]) (h1 := h) rfl ?_
    refine jT.goto (st_Bd_hasKingsAndPawnsRight) rfl (tgt := 65) (by decide) ?_
    refine jG.subp [0, 2, 3, 4] (L1 := [(0, (2, ((20 : Nat) : Int))), (2, (0, l6)), (3, (0, l7)), (4, (0, l8))]) rfl ?_
    exact f_Bd_hasKingsAndPawnsRight_j65_6_ok E hrc hk hv
set_option maxRecDepth 100000 in
set_option maxHeartbeats 4000000 in
theorem f_Bd_hasKingsAndPawnsRight_lp6_ok (E : jE) {h : jH} {k : Int → Int → Int → Option (Int)} (hk : ∀ (l1 : Int) (l2 : Int) (l3 : Int) (res : Int), k l1 l2 l3 = some res → jG E M_Bd_hasKingsAndPawnsRight 92 [(1, (0, l1)), (2, (0, l2))] [] h (some (0, res)) h) : ∀ (n : Nat) (l1 : Int) (l2 : Int) (l3 : Int) (res : Int), f_Bd_hasKingsAndPawnsRight_lp6 h k n l1 l2 l3 = some res → jG E M_Bd_hasKingsAndPawnsRight 6 [(0, (2, ((20 : Nat) : Int))), (1, (0, l1)), (2, (0, l2)), (3, (0, l3))] [] h (some (0, res)) h := by
  intro n
  induction n with
  | zero => intro l1 l2 l3 res hv; cases hv
  | succ n ih =>
    intro l1 l2 l3 res hv
    rw [f_Bd_hasKingsAndPawnsRight_lp6] at hv
    refine jG.blk (st_Bd_hasKingsAndPawnsRight) 2 (pc1 := 9) (L1 := [(0, (2, ((20 : Nat) : Int))), (1, (0, l1)), (2, (0, l2)), (3, (0, l3))]) (st1 := [(0, 64), (0, l3)]) (h1 := h) rfl ?_
    refine jT.if2 (st_Bd_hasKingsAndPawnsRight) rfl (tgt := 92) (by decide) (fun hc => ?_) (fun hc => ?_)
    · have hc : 64 ≤ l3 := hc
      try rw [if_pos hc] at hv
      refine jG.subp [1, 2] (L1 := [(1, (0, l1)), (2, (0, l2))]) rfl ?_
      exact hk _ _ _ _ hv
    · have hc : ¬ (64 ≤ l3) := hc
      try rw [if_neg hc] at hv
      refine jG.blk (st_Bd_hasKingsAndPawnsRight) 3 (pc1 := 17) (L1 := [(0, (2, ((20 : Nat) : Int))), (1, (0, l1)), (2, (0, l2)), (3, (0, l3))]) (st1 := [(0, l3), (2, ((21 : Nat) : Int))]) (h1 := h) rfl ?_
      obtain ⟨hg, hv⟩ := jgd_some hv
      refine jT.iald (a := 21) (st_Bd_hasKingsAndPawnsRight) rfl rfl (by decide) hg.1 hg.2 ?_
      refine jG.blk (st_Bd_hasKingsAndPawnsRight) 6 (pc1 := 27) (L1 := [(5, (0, jshr l3 3)), (4, (0, h 21 l3.toNat)), (0, (2, ((20 : Nat) : Int))), (1, (0, l1)), (2, (0, l2)), (3, (0, l3))]) (st1 := [(0, h 21 l3.toNat)]) (h1 := h) rfl ?_
      obtain ⟨v4, hq, hv⟩ := Option.bind_eq_some_iff.mp hv
      refine jT.cSN (M1 := M_X_kindOf) [(0, h 21 l3.toNat)] [] (st_Bd_hasKingsAndPawnsRight) rfl rfl ok_X_kindOf rfl (Nat.le_of_ble_eq_true rfl) (Nat.le_of_ble_eq_true rfl) rfl (Nat.le_of_ble_eq_true rfl) (C_X_kindOf hq) ?_
      show jG E _ 30 [(5, (0, jshr l3 3)), (4, (0, h 21 l3.toNat)), (0, (2, ((20 : Nat) : Int))), (1, (0, l1)), (2, (0, l2)), (3, (0, l3))] [(0, v4)] h _ _
      refine jG.blk (st_Bd_hasKingsAndPawnsRight) 1 (pc1 := 31) (L1 := [(5, (0, jshr l3 3)), (4, (0, h 21 l3.toNat)), (0, (2, ((20 : Nat) : Int))), (1, (0, l1)), (2, (0, l2)), (3, (0, l3))]) (st1 := [(0, 1), (0, v4)]) (h1 := h) rfl ?_
      refine jT.if2 (st_Bd_hasKingsAndPawnsRight) rfl (tgt := 48) (by decide) (fun hc => ?_) (fun hc => ?_)
      · have hc : ¬ (v4 = 1) := hc
        try rw [if_neg hc] at hv
        refine jG.subp [2, 3, 4, 5, 1] (L1 := [(0, (2, ((20 : Nat) : Int))), (1, (0, l1)), (2, (0, l2)), (3, (0, l3)), (4, (0, h 21 l3.toNat))]) rfl ?_
        exact f_Bd_hasKingsAndPawnsRight_j48_6_ok E ih hk hv
      · have hc : v4 = 1 := Decidable.not_not.mp hc
        try rw [if_pos hc] at hv
        refine jG.blk (st_Bd_hasKingsAndPawnsRight) 1 (pc1 := 36) (L1 := [(5, (0, jshr l3 3)), (4, (0, h 21 l3.toNat)), (0, (2, ((20 : Nat) : Int))), (1, (0, l1)), (2, (0, l2)), (3, (0, l3))]) (st1 := [(0, jshr l3 3)]) (h1 := h) rfl ?_
        refine jT.if1 (st_Bd_hasKingsAndPawnsRight) rfl (tgt := 46) (by decide) (fun hc => ?_) (fun hc => ?_)
        · have hc : jshr l3 3 = 0 := hc
          try rw [if_pos hc] at hv
          refine jG.blk (st_Bd_hasKingsAndPawnsRight) 1 (pc1 := 47) (L1 := [(5, (0, jshr l3 3)), (4, (0, h 21 l3.toNat)), (0, (2, ((20 : Nat) : Int))), (1, (0, l1)), (2, (0, l2)), (3, (0, l3))]) (st1 := [(0, 0)]) (h1 := h) rfl ?_
          cases hv
          exact jT.iret (st_Bd_hasKingsAndPawnsRight) rfl (Or.inl rfl)
        · have hc : ¬ (jshr l3 3 = 0) := hc
          try rw [if_neg hc] at hv
          refine jG.blk (st_Bd_hasKingsAndPawnsRight) 2 (pc1 := 43) (L1 := [(5, (0, jshr l3 3)), (4, (0, h 21 l3.toNat)), (0, (2, ((20 : Nat) : Int))), (1, (0, l1)), (2, (0, l2)), (3, (0, l3))]) (st1 := [(0, 7), (0, jshr l3 3)]) (h1 := h) rfl ?_
          refine jT.if2 (st_Bd_hasKingsAndPawnsRight) rfl (tgt := 48) (by decide) (fun hc => ?_) (fun hc => ?_)
          · have hc : ¬ (jshr l3 3 = 7) := hc
            try rw [if_neg hc] at hv
            refine jG.subp [2, 3, 4, 5, 1] (L1 := [(0, (2, ((20 : Nat) : Int))), (1, (0, l1)), (2, (0, l2)), (3, (0, l3)), (4, (0, h 21 l3.toNat))]) rfl ?_
            exact f_Bd_hasKingsAndPawnsRight_j48_6_ok E ih hk hv
          · have hc : jshr l3 3 = 7 := Decidable.not_not.mp hc
            try rw [if_pos hc] at hv
            refine jG.blk (st_Bd_hasKingsAndPawnsRight) 1 (pc1 := 47) (L1 := [(5, (0, jshr l3 3)), (4, (0, h 21 l3.toNat)), (0, (2, ((20 : Nat) : Int))), (1, (0, l1)), (2, (0, l2)), (3, (0, l3))]) (st1 := [(0, 0)]) (h1 := h) rfl ?_
            cases hv
            exact jT.iret (st_Bd_hasKingsAndPawnsRight) rfl (Or.inl rfl)
set_option maxRecDepth 100000 in
set_option maxHeartbeats 4000000 in
theorem C_Bd_hasKingsAndPawnsRight {E : jE} {h : jH} {res : Int} (hv : f_Bd_hasKingsAndPawnsRight h = some res) : jC E M_Bd_hasKingsAndPawnsRight [(2, ((20 : Nat) : Int))] h (some (0, res)) h := by
  refine jC.of ok_Bd_hasKingsAndPawnsRight.1 (by rw [jlg]; exact Nat.le_of_ble_eq_true rfl) ?_
  show jG E _ 0 [(0, (2, ((20 : Nat) : Int)))] [] h _ _
  unfold f_Bd_hasKingsAndPawnsRight at hv
  refine jG.blk (st_Bd_hasKingsAndPawnsRight) 6 (pc1 := 6) (L1 := [(3, (0, 0)), (2, (0, 0)), (1, (0, 0)), (0, (2, ((20 : Nat) : Int)))]) (st1 := []) (h1 := h) rfl ?_
  refine jG.subp [3, 2, 1, 0] (L1 := [(0, (2, ((20 : Nat) : Int))), (1, (0, 0)), (2, (0, 0)), (3, (0, 0))]) rfl ?_
  refine f_Bd_hasKingsAndPawnsRight_lp6_ok E (fun l16 l17 l18 res hv => ?_) 1000 _ _ _ _ hv
  · refine jG.blk (st_Bd_hasKingsAndPawnsRight) 2 (pc1 := 94) (L1 := [(1, (0, l16)), (2, (0, l17))]) (st1 := [(0, 1), (0, l16)]) (h1 := h) rfl ?_
    refine jT.if2 (st_Bd_hasKingsAndPawnsRight) rfl (tgt := 106) (by decide) (fun hc => ?_) (fun hc => ?_)
    · have hc : ¬ (l16 = 1) := hc
      try rw [if_neg hc] at hv
      refine jG.blk (st_Bd_hasKingsAndPawnsRight) 1 (pc1 := 107) (L1 := [(1, (0, l16)), (2, (0, l17))]) (st1 := [(0, 0)]) (h1 := h) rfl ?_
      cases hv
      exact jT.iret (st_Bd_hasKingsAndPawnsRight) rfl (Or.inl rfl)
    · have hc : l16 = 1 := Decidable.not_not.mp hc
      try rw [if_pos hc] at hv
      refine jG.blk (st_Bd_hasKingsAndPawnsRight) 2 (pc1 := 99) (L1 := [(1, (0, l16)), (2, (0, l17))]) (st1 := [(0, 1), (0, l17)]) (h1 := h) rfl ?_
      refine jT.if2 (st_Bd_hasKingsAndPawnsRight) rfl (tgt := 106) (by decide) (fun hc => ?_) (fun hc => ?_)
      · have hc : ¬ (l17 = 1) := hc
        try rw [if_neg hc] at hv
        refine jG.blk (st_Bd_hasKingsAndPawnsRight) 1 (pc1 := 107) (L1 := [(1, (0, l16)), (2, (0, l17))]) (st1 := [(0, 0)]) (h1 := h) rfl ?_
        cases hv
        exact jT.iret (st_Bd_hasKingsAndPawnsRight) rfl (Or.inl rfl)
      · have hc : l17 = 1 := Decidable.not_not.mp hc
        try rw [if_pos hc] at hv
        refine jG.blk (st_Bd_hasKingsAndPawnsRight) 1 (pc1 := 103) (L1 := [(1, (0, l16)), (2, (0, l17))]) (st1 := [(0, 1)]) (h1 := h) rfl ?_
        refine jT.goto (st_Bd_hasKingsAndPawnsRight) rfl (tgt := 107) (by decide) ?_
        cases hv
        exact jT.iret (st_Bd_hasKingsAndPawnsRight) rfl (Or.inr rfl)
def f_Bd_hasRightsRight_j55_9 (rc : Int → Option (Int)) (k : Int → Option (Int)) (h : jH) (x3 : Int) (l7 : Int) (s8 : Int) : Option (Int) := (f_X_rightOf h x3 l7).bind fun v9 => if jand (h 20 2) v9 = 0 then rc (jadd l7 1) else if s8 = 0 then some 0 else rc (jadd l7 1)
def f_Bd_hasRightsRight_j54_9 (rc : Int → Option (Int)) (k : Int → Option (Int)) (h : jH) (x3 : Int) (l6 : Int) : Option (Int) := f_Bd_hasRightsRight_j55_9 rc k h x3 l6 0
def f_Bd_hasRightsRight_lp9 (h : jH) (x3 : Int) (k : Int → Option (Int)) : Nat → Int → Option (Int)
  | 0, _ => none
  | n + 1, l2 => if 2 ≤ l2 then k l2 else (f_X_kingHome h x3).bind fun v4 => jgd (0 ≤ v4 ∧ v4 < 64) ((f_X_pieceOf h 6 x3).bind fun v5 => if h 21 v4.toNat = v5 then (f_X_rookHome h x3 l2).bind fun v10 => jgd (0 ≤ v10 ∧ v10 < 64) ((f_X_pieceOf h 4 x3).bind fun v11 => if h 21 v10.toNat = v11 then f_Bd_hasRightsRight_j55_9 (f_Bd_hasRightsRight_lp9 h x3 k n) k h x3 l2 1 else f_Bd_hasRightsRight_j54_9 (f_Bd_hasRightsRight_lp9 h x3 k n) k h x3 l2) else f_Bd_hasRightsRight_j54_9 (f_Bd_hasRightsRight_lp9 h x3 k n) k h x3 l2)
def f_Bd_hasRightsRight_lp2 (h : jH) (k : Int → Option (Int)) : Nat → Int → Option (Int)
  | 0, _ => none
  | n + 1, l1 => if 1 < l1 then k l1 else f_Bd_hasRightsRight_lp9 h l1 (fun l12 => f_Bd_hasRightsRight_lp2 h k n (jadd l1 1)) 1000 0
def f_Bd_hasRightsRight (h : jH) : Option (Int) := f_Bd_hasRightsRight_lp2 h (fun l13 => some 1) 1000 0
set_option maxRecDepth 100000 in
set_option maxHeartbeats 4000000 in
theorem f_Bd_hasRightsRight_j55_9_ok (E : jE) {rc : Int → Option (Int)} {k : Int → Option (Int)} {h : jH} {x3 : Int} (hrc : ∀ (l2 : Int) (res : Int), rc l2 = some res → jG E M_Bd_hasRightsRight 9 [(0, (2, ((20 : Nat) : Int))), (1, (0, x3)), (2, (0, l2))] [] h (some (0, res)) h) (hk : ∀ (l2 : Int) (res : Int), k l2 = some res → jG E M_Bd_hasRightsRight 81 [(0, (2, ((20 : Nat) : Int))), (1, (0, x3))] [] h (some (0, res)) h) {l7 : Int} {s8 : Int} {res : Int} (hv : f_Bd_hasRightsRight_j55_9 rc k h x3 l7 s8 = some res) : jG E M_Bd_hasRightsRight 55 [(0, (2, ((20 : Nat) : Int))), (1, (0, x3)), (2, (0, l7))] [(0, s8)] h (some (0, res)) h := by
  unfold f_Bd_hasRightsRight_j55_9 at hv
  refine jG.blk (st_Bd_hasRightsRight) 5 (pc1 := 62) (L1 := [(3, (0, s8)), (0, (2, ((20 : Nat) : Int))), (1, (0, x3)), (2, (0, l7))]) (st1 := [(0, l7), (0, x3), (0, h 20 2)]) (h1 := h) rfl ?_
  obtain ⟨v9, hq, hv⟩ := Option.bind_eq_some_iff.mp hv
  refine jT.cSN (M1 := M_X_rightOf) [(0, x3), (0, l7)] [(0, h 20 2)] (st_Bd_hasRightsRight) rfl rfl ok_X_rightOf rfl (Nat.le_of_ble_eq_true rfl) (Nat.le_of_ble_eq_true rfl) rfl (Nat.le_of_ble_eq_true rfl) (C_X_rightOf hq) ?_
  show jG E _ 65 [(3, (0, s8)), (0, (2, ((20 : Nat) : Int))), (1, (0, x3)), (2, (0, l7))] [(0, v9), (0, h 20 2)] h _ _
  refine jG.blk (st_Bd_hasRightsRight) 1 (pc1 := 66) (L1 := [(3, (0, s8)), (0, (2, ((20 : Nat) : Int))), (1, (0, x3)), (2, (0, l7))]) (st1 := [(0, jand (h 20 2) v9)]) (h1 := h) rfl ?_
  refine jT.if1 (st_Bd_hasRightsRight) rfl (tgt := 75) (by decide) (fun hc => ?_) (fun hc => ?_)
  · have hc : jand (h 20 2) v9 = 0 := hc
    try rw [if_pos hc] at hv
    refine jG.blk (st_Bd_hasRightsRight) 1 (pc1 := 78) (L1 := [(2, (0, jadd l7 1)), (3, (0, s8)), (0, (2, ((20 : Nat) : Int))), (1, (0, x3))]) (st1 := []) (h1 := h) rfl ?_
    refine jT.goto (st_Bd_hasRightsRight) rfl (tgt := 9) (by decide) ?_
    refine jG.subp [2, 3, 0] (L1 := [(0, (2, ((20 : Nat) : Int))), (1, (0, x3)), (2, (0, jadd l7 1))]) rfl ?_
    exact hrc _ _ hv
  · have hc : ¬ (jand (h 20 2) v9 = 0) := hc
    try rw [if_neg hc] at hv
    refine jG.blk (st_Bd_hasRightsRight) 1 (pc1 := 70) (L1 := [(3, (0, s8)), (0, (2, ((20 : Nat) : Int))), (1, (0, x3)), (2, (0, l7))]) (st1 := [(0, s8)]) (h1 := h) rfl ?_
    refine jT.if1 (st_Bd_hasRightsRight) rfl (tgt := 75) (by decide) (fun hc => ?_) (fun hc => ?_)
    · have hc : ¬ (s8 = 0) := hc
      try rw [if_neg hc] at hv
      refine jG.blk (st_Bd_hasRightsRight) 1 (pc1 := 78) (L1 := [(2, (0, jadd l7 1)), (3, (0, s8)), (0, (2, ((20 : Nat) : Int))), (1, (0, x3))]) (st1 := []) (h1 := h) rfl ?_
      refine jT.goto (st_Bd_hasRightsRight) rfl (tgt := 9) (by decide) ?_
      refine jG.subp [2, 3, 0] (L1 := [(0, (2, ((20 : Nat) : Int))), (1, (0, x3)), (2, (0, jadd l7 1))]) rfl ?_
      exact hrc _ _ hv
    · have hc : s8 = 0 := Decidable.not_not.mp hc
      try rw [if_pos hc] at hv
      refine jG.blk (st_Bd_hasRightsRight) 1 (pc1 := 74) (L1 := [(3, (0, s8)), (0, (2, ((20 : Nat) : Int))), (1, (0, x3)), (2, (0, l7))]) (st1 := [(0, 0)]) (h1 := h) rfl ?_
      cases hv
      exact jT.iret (st_Bd_hasRightsRight) rfl (Or.inl rfl)
set_option maxRecDepth 100000 in
set_option maxHeartbeats 4000000 in
theorem f_Bd_hasRightsRight_j54_9_ok (E : jE) {rc : Int → Option (Int)} {k : Int → Option (Int)} {h : jH} {x3 : Int} (hrc : ∀ (l2 : Int) (res : Int), rc l2 = some res → jG E M_Bd_hasRightsRight 9 [(0, (2, ((20 : Nat) : Int))), (1, (0, x3)), (2, (0, l2))] [] h (some (0, res)) h) (hk : ∀ (l2 : Int) (res : Int), k l2 = some res → jG E M_Bd_hasRightsRight 81 [(0, (2, ((20 : Nat) : Int))), (1, (0, x3))] [] h (some (0, res)) h) {l6 : Int} {res : Int} (hv : f_Bd_hasRightsRight_j54_9 rc k h x3 l6 = some res) : jG E M_Bd_hasRightsRight 54 [(0, (2, ((20 : Nat) : Int))), (1, (0, x3)), (2, (0, l6))] [] h (some (0, res)) h := by
  unfold f_Bd_hasRightsRight_j54_9 at hv
  refine jG.blk (st_Bd_hasRightsRight) 1 (pc1 := 55) (L1 := [(0, (2, ((20 : Nat) : Int))), (1, (0, x3)), (2, (0, l6))]) (st1 := [(0, 0)]) (h1 := h) rfl ?_
  exact f_Bd_hasRightsRight_j55_9_ok E hrc hk hv
set_option maxRecDepth 100000 in
set_option maxHeartbeats 4000000 in
theorem f_Bd_hasRightsRight_lp9_ok (E : jE) {h : jH} {x3 : Int} {k : Int → Option (Int)} (hk : ∀ (l2 : Int) (res : Int), k l2 = some res → jG E M_Bd_hasRightsRight 81 [(0, (2, ((20 : Nat) : Int))), (1, (0, x3))] [] h (some (0, res)) h) : ∀ (n : Nat) (l2 : Int) (res : Int), f_Bd_hasRightsRight_lp9 h x3 k n l2 = some res → jG E M_Bd_hasRightsRight 9 [(0, (2, ((20 : Nat) : Int))), (1, (0, x3)), (2, (0, l2))] [] h (some (0, res)) h := by
  intro n
  induction n with
  | zero => intro l2 res hv; cases hv
  | succ n ih =>
    intro l2 res hv
    rw [f_Bd_hasRightsRight_lp9] at hv
    refine jG.blk (st_Bd_hasRightsRight) 2 (pc1 := 11) (L1 := [(0, (2, ((20 : Nat) : Int))), (1, (0, x3)), (2, (0, l2))]) (st1 := [(0, 2), (0, l2)]) (h1 := h) rfl ?_
    refine jT.if2 (st_Bd_hasRightsRight) rfl (tgt := 81) (by decide) (fun hc => ?_) (fun hc => ?_)
    · have hc : 2 ≤ l2 := hc
      try rw [if_pos hc] at hv
      refine jG.subp [0, 1] (L1 := [(0, (2, ((20 : Nat) : Int))), (1, (0, x3))]) rfl ?_
      exact hk _ _ hv
    · have hc : ¬ (2 ≤ l2) := hc
      try rw [if_neg hc] at hv
      refine jG.blk (st_Bd_hasRightsRight) 3 (pc1 := 19) (L1 := [(0, (2, ((20 : Nat) : Int))), (1, (0, x3)), (2, (0, l2))]) (st1 := [(0, x3), (2, ((21 : Nat) : Int))]) (h1 := h) rfl ?_
      obtain ⟨v4, hq, hv⟩ := Option.bind_eq_some_iff.mp hv
      refine jT.cSN (M1 := M_X_kingHome) [(0, x3)] [(2, ((21 : Nat) : Int))] (st_Bd_hasRightsRight) rfl rfl ok_X_kingHome rfl (Nat.le_of_ble_eq_true rfl) (Nat.le_of_ble_eq_true rfl) rfl (Nat.le_of_ble_eq_true rfl) (C_X_kingHome hq) ?_
      show jG E _ 22 [(0, (2, ((20 : Nat) : Int))), (1, (0, x3)), (2, (0, l2))] [(0, v4), (2, ((21 : Nat) : Int))] h _ _
      obtain ⟨hg, hv⟩ := jgd_some hv
      refine jT.iald (a := 21) (st_Bd_hasRightsRight) rfl rfl (by decide) hg.1 hg.2 ?_
      refine jG.blk (st_Bd_hasRightsRight) 2 (pc1 := 26) (L1 := [(0, (2, ((20 : Nat) : Int))), (1, (0, x3)), (2, (0, l2))]) (st1 := [(0, x3), (0, 6), (0, h 21 v4.toNat)]) (h1 := h) rfl ?_
      obtain ⟨v5, hq, hv⟩ := Option.bind_eq_some_iff.mp hv
      refine jT.cSN (M1 := M_X_pieceOf) [(0, 6), (0, x3)] [(0, h 21 v4.toNat)] (st_Bd_hasRightsRight) rfl rfl ok_X_pieceOf rfl (Nat.le_of_ble_eq_true rfl) (Nat.le_of_ble_eq_true rfl) rfl (Nat.le_of_ble_eq_true rfl) (C_X_pieceOf hq) ?_
      show jG E _ 29 [(0, (2, ((20 : Nat) : Int))), (1, (0, x3)), (2, (0, l2))] [(0, v5), (0, h 21 v4.toNat)] h _ _
      refine jT.if2 (st_Bd_hasRightsRight) rfl (tgt := 54) (by decide) (fun hc => ?_) (fun hc => ?_)
      · have hc : ¬ (h 21 v4.toNat = v5) := hc
        try rw [if_neg hc] at hv
        exact f_Bd_hasRightsRight_j54_9_ok E ih hk hv
      · have hc : h 21 v4.toNat = v5 := Decidable.not_not.mp hc
        try rw [if_pos hc] at hv
        refine jG.blk (st_Bd_hasRightsRight) 4 (pc1 := 38) (L1 := [(0, (2, ((20 : Nat) : Int))), (1, (0, x3)), (2, (0, l2))]) (st1 := [(0, l2), (0, x3), (2, ((21 : Nat) : Int))]) (h1 := h) rfl ?_
        obtain ⟨v10, hq, hv⟩ := Option.bind_eq_some_iff.mp hv
        refine jT.cSN (M1 := M_X_rookHome) [(0, x3), (0, l2)] [(2, ((21 : Nat) : Int))] (st_Bd_hasRightsRight) rfl rfl ok_X_rookHome rfl (Nat.le_of_ble_eq_true rfl) (Nat.le_of_ble_eq_true rfl) rfl (Nat.le_of_ble_eq_true rfl) (C_X_rookHome hq) ?_
        show jG E _ 41 [(0, (2, ((20 : Nat) : Int))), (1, (0, x3)), (2, (0, l2))] [(0, v10), (2, ((21 : Nat) : Int))] h _ _
        obtain ⟨hg, hv⟩ := jgd_some hv
        refine jT.iald (a := 21) (st_Bd_hasRightsRight) rfl rfl (by decide) hg.1 hg.2 ?_
        refine jG.blk (st_Bd_hasRightsRight) 2 (pc1 := 44) (L1 := [(0, (2, ((20 : Nat) : Int))), (1, (0, x3)), (2, (0, l2))]) (st1 := [(0, x3), (0, 4), (0, h 21 v10.toNat)]) (h1 := h) rfl ?_
        obtain ⟨v11, hq, hv⟩ := Option.bind_eq_some_iff.mp hv
        refine jT.cSN (M1 := M_X_pieceOf) [(0, 4), (0, x3)] [(0, h 21 v10.toNat)] (st_Bd_hasRightsRight) rfl rfl ok_X_pieceOf rfl (Nat.le_of_ble_eq_true rfl) (Nat.le_of_ble_eq_true rfl) rfl (Nat.le_of_ble_eq_true rfl) (C_X_pieceOf hq) ?_
        show jG E _ 47 [(0, (2, ((20 : Nat) : Int))), (1, (0, x3)), (2, (0, l2))] [(0, v11), (0, h 21 v10.toNat)] h _ _
        refine jT.if2 (st_Bd_hasRightsRight) rfl (tgt := 54) (by decide) (fun hc => ?_) (fun hc => ?_)
        · have hc : ¬ (h 21 v10.toNat = v11) := hc
          try rw [if_neg hc] at hv
          exact f_Bd_hasRightsRight_j54_9_ok E ih hk hv
        · have hc : h 21 v10.toNat = v11 := Decidable.not_not.mp hc
          try rw [if_pos hc] at hv
          refine jG.blk (st_Bd_hasRightsRight) 1 (pc1 := 51) (L1 := [(0, (2, ((20 : Nat) : Int))), (1, (0, x3)), (2, (0, l2))]) (st1 := [(0, 1)]) (h1 := h) rfl ?_
          refine jT.goto (st_Bd_hasRightsRight) rfl (tgt := 55) (by decide) ?_
          exact f_Bd_hasRightsRight_j55_9_ok E ih hk hv
set_option maxRecDepth 100000 in
set_option maxHeartbeats 4000000 in
theorem f_Bd_hasRightsRight_lp2_ok (E : jE) {h : jH} {k : Int → Option (Int)} (hk : ∀ (l1 : Int) (res : Int), k l1 = some res → jG E M_Bd_hasRightsRight 87 [] [] h (some (0, res)) h) : ∀ (n : Nat) (l1 : Int) (res : Int), f_Bd_hasRightsRight_lp2 h k n l1 = some res → jG E M_Bd_hasRightsRight 2 [(0, (2, ((20 : Nat) : Int))), (1, (0, l1))] [] h (some (0, res)) h := by
  intro n
  induction n with
  | zero => intro l1 res hv; cases hv
  | succ n ih =>
    intro l1 res hv
    rw [f_Bd_hasRightsRight_lp2] at hv
    refine jG.blk (st_Bd_hasRightsRight) 2 (pc1 := 4) (L1 := [(0, (2, ((20 : Nat) : Int))), (1, (0, l1))]) (st1 := [(0, 1), (0, l1)]) (h1 := h) rfl ?_
    refine jT.if2 (st_Bd_hasRightsRight) rfl (tgt := 87) (by decide) (fun hc => ?_) (fun hc => ?_)
    · have hc : 1 < l1 := hc
      try rw [if_pos hc] at hv
      refine jG.subp [] (L1 := []) rfl ?_
      exact hk _ _ hv
    · have hc : ¬ (1 < l1) := hc
      try rw [if_neg hc] at hv
      refine jG.blk (st_Bd_hasRightsRight) 2 (pc1 := 9) (L1 := [(2, (0, 0)), (0, (2, ((20 : Nat) : Int))), (1, (0, l1))]) (st1 := []) (h1 := h) rfl ?_
      refine jG.subp [1, 2, 0] (L1 := [(0, (2, ((20 : Nat) : Int))), (1, (0, l1)), (2, (0, 0))]) rfl ?_
      refine f_Bd_hasRightsRight_lp9_ok E (fun l12 res hv => ?_) 1000 _ _ hv
      · refine jG.blk (st_Bd_hasRightsRight) 1 (pc1 := 84) (L1 := [(1, (0, jadd l1 1)), (0, (2, ((20 : Nat) : Int)))]) (st1 := []) (h1 := h) rfl ?_
        refine jT.goto (st_Bd_hasRightsRight) rfl (tgt := 2) (by decide) ?_
        refine jG.subp [1, 0] (L1 := [(0, (2, ((20 : Nat) : Int))), (1, (0, jadd l1 1))]) rfl ?_
        exact ih _ _ hv
set_option maxRecDepth 100000 in
set_option maxHeartbeats 4000000 in
theorem C_Bd_hasRightsRight {E : jE} {h : jH} {res : Int} (hv : f_Bd_hasRightsRight h = some res) : jC E M_Bd_hasRightsRight [(2, ((20 : Nat) : Int))] h (some (0, res)) h := by
  refine jC.of ok_Bd_hasRightsRight.1 (by rw [jlg]; exact Nat.le_of_ble_eq_true rfl) ?_
  show jG E _ 0 [(0, (2, ((20 : Nat) : Int)))] [] h _ _
  unfold f_Bd_hasRightsRight at hv
  refine jG.blk (st_Bd_hasRightsRight) 2 (pc1 := 2) (L1 := [(1, (0, 0)), (0, (2, ((20 : Nat) : Int)))]) (st1 := []) (h1 := h) rfl ?_
  refine jG.subp [1, 0] (L1 := [(0, (2, ((20 : Nat) : Int))), (1, (0, 0))]) rfl ?_
  refine f_Bd_hasRightsRight_lp2_ok E (fun l13 res hv => ?_) 1000 _ _ hv
  · refine jG.blk (st_Bd_hasRightsRight) 1 (pc1 := 88) (L1 := []) (st1 := [(0, 1)]) (h1 := h) rfl ?_
    cases hv
    exact jT.iret (st_Bd_hasRightsRight) rfl (Or.inr rfl)
def f_Bd_hasFileRight (h : jH) : Option (Int) := if h 20 3 = (-1) then some 1 else (f_X_otherSide h (h 20 1)).bind fun v1 => (f_X_rankFor h v1 1).bind fun v2 => (f_X_squareAt h (h 20 3) v2).bind fun v3 => jgd (0 ≤ v3 ∧ v3 < 64) (if h 21 v3.toNat = 0 then (f_X_rankFor h v1 2).bind fun v4 => (f_X_squareAt h (h 20 3) v4).bind fun v5 => jgd (0 ≤ v5 ∧ v5 < 64) (if h 21 v5.toNat = 0 then (f_X_rankFor h v1 3).bind fun v6 => (f_X_squareAt h (h 20 3) v6).bind fun v7 => jgd (0 ≤ v7 ∧ v7 < 64) ((f_X_pieceOf h 1 v1).bind fun v8 => some (if h 21 v7.toNat = v8 then 1 else 0)) else some 0) else some 0)
set_option maxRecDepth 100000 in
set_option maxHeartbeats 4000000 in
theorem C_Bd_hasFileRight {E : jE} {h : jH} {res : Int} (hv : f_Bd_hasFileRight h = some res) : jC E M_Bd_hasFileRight [(2, ((20 : Nat) : Int))] h (some (0, res)) h := by
  refine jC.of ok_Bd_hasFileRight.1 (by rw [jlg]; exact Nat.le_of_ble_eq_true rfl) ?_
  show jG E _ 0 [(0, (2, ((20 : Nat) : Int)))] [] h _ _
  unfold f_Bd_hasFileRight at hv
  refine jG.blk (st_Bd_hasFileRight) 3 (pc1 := 5) (L1 := [(0, (2, ((20 : Nat) : Int)))]) (st1 := [(0, (-1)), (0, h 20 3)]) (h1 := h) rfl ?_
  refine jT.if2 (st_Bd_hasFileRight) rfl (tgt := 10) (by decide) (fun hc => ?_) (fun hc => ?_)
  · have hc : ¬ (h 20 3 = (-1)) := hc
    try rw [if_neg hc] at hv
    refine jG.blk (st_Bd_hasFileRight) 2 (pc1 := 14) (L1 := [(0, (2, ((20 : Nat) : Int)))]) (st1 := [(0, h 20 1)]) (h1 := h) rfl ?_
    obtain ⟨v1, hq, hv⟩ := Option.bind_eq_some_iff.mp hv
    refine jT.cSN (M1 := M_X_otherSide) [(0, h 20 1)] [] (st_Bd_hasFileRight) rfl rfl ok_X_otherSide rfl (Nat.le_of_ble_eq_true rfl) (Nat.le_of_ble_eq_true rfl) rfl (Nat.le_of_ble_eq_true rfl) (C_X_otherSide hq) ?_
    show jG E _ 17 [(0, (2, ((20 : Nat) : Int)))] [(0, v1)] h _ _
    refine jG.blk (st_Bd_hasFileRight) 7 (pc1 := 28) (L1 := [(1, (0, v1)), (0, (2, ((20 : Nat) : Int)))]) (st1 := [(0, 1), (0, v1), (0, h 20 3), (2, ((21 : Nat) : Int))]) (h1 := h) rfl ?_
    obtain ⟨v2, hq, hv⟩ := Option.bind_eq_some_iff.mp hv
    refine jT.cSN (M1 := M_X_rankFor) [(0, v1), (0, 1)] [(0, h 20 3), (2, ((21 : Nat) : Int))] (st_Bd_hasFileRight) rfl rfl ok_X_rankFor rfl (Nat.le_of_ble_eq_true rfl) (Nat.le_of_ble_eq_true rfl) rfl (Nat.le_of_ble_eq_true rfl) (C_X_rankFor hq) ?_
    show jG E _ 31 [(1, (0, v1)), (0, (2, ((20 : Nat) : Int)))] [(0, v2), (0, h 20 3), (2, ((21 : Nat) : Int))] h _ _
    obtain ⟨v3, hq, hv⟩ := Option.bind_eq_some_iff.mp hv
    refine jT.cSN (M1 := M_X_squareAt) [(0, h 20 3), (0, v2)] [(2, ((21 : Nat) : Int))] (st_Bd_hasFileRight) rfl rfl ok_X_squareAt rfl (Nat.le_of_ble_eq_true rfl) (Nat.le_of_ble_eq_true rfl) rfl (Nat.le_of_ble_eq_true rfl) (C_X_squareAt hq) ?_
    show jG E _ 34 [(1, (0, v1)), (0, (2, ((20 : Nat) : Int)))] [(0, v3), (2, ((21 : Nat) : Int))] h _ _
    obtain ⟨hg, hv⟩ := jgd_some hv
    refine jT.iald (a := 21) (st_Bd_hasFileRight) rfl rfl (by decide) hg.1 hg.2 ?_
    refine jT.if1 (st_Bd_hasFileRight) rfl (tgt := 87) (by decide) (fun hc => ?_) (fun hc => ?_)
    · have hc : ¬ (h 21 v3.toNat = 0) := hc
      try rw [if_neg hc] at hv
      refine jG.blk (st_Bd_hasFileRight) 1 (pc1 := 88) (L1 := [(1, (0, v1)), (0, (2, ((20 : Nat) : Int)))]) (st1 := [(0, 0)]) (h1 := h) rfl ?_
      cases hv
      exact jT.iret (st_Bd_hasFileRight) rfl (Or.inl rfl)
    · have hc : h 21 v3.toNat = 0 := Decidable.not_not.mp hc
      try rw [if_pos hc] at hv
      refine jG.blk (st_Bd_hasFileRight) 6 (pc1 := 48) (L1 := [(1, (0, v1)), (0, (2, ((20 : Nat) : Int)))]) (st1 := [(0, 2), (0, v1), (0, h 20 3), (2, ((21 : Nat) : Int))]) (h1 := h) rfl ?_
      obtain ⟨v4, hq, hv⟩ := Option.bind_eq_some_iff.mp hv
      refine jT.cSN (M1 := M_X_rankFor) [(0, v1), (0, 2)] [(0, h 20 3), (2, ((21 : Nat) : Int))] (st_Bd_hasFileRight) rfl rfl ok_X_rankFor rfl (Nat.le_of_ble_eq_true rfl) (Nat.le_of_ble_eq_true rfl) rfl (Nat.le_of_ble_eq_true rfl) (C_X_rankFor hq) ?_
      show jG E _ 51 [(1, (0, v1)), (0, (2, ((20 : Nat) : Int)))] [(0, v4), (0, h 20 3), (2, ((21 : Nat) : Int))] h _ _
      obtain ⟨v5, hq, hv⟩ := Option.bind_eq_some_iff.mp hv
      refine jT.cSN (M1 := M_X_squareAt) [(0, h 20 3), (0, v4)] [(2, ((21 : Nat) : Int))] (st_Bd_hasFileRight) rfl rfl ok_X_squareAt rfl (Nat.le_of_ble_eq_true rfl) (Nat.le_of_ble_eq_true rfl) rfl (Nat.le_of_ble_eq_true rfl) (C_X_squareAt hq) ?_
      show jG E _ 54 [(1, (0, v1)), (0, (2, ((20 : Nat) : Int)))] [(0, v5), (2, ((21 : Nat) : Int))] h _ _
      obtain ⟨hg, hv⟩ := jgd_some hv
      refine jT.iald (a := 21) (st_Bd_hasFileRight) rfl rfl (by decide) hg.1 hg.2 ?_
      refine jT.if1 (st_Bd_hasFileRight) rfl (tgt := 87) (by decide) (fun hc => ?_) (fun hc => ?_)
      · have hc : ¬ (h 21 v5.toNat = 0) := hc
        try rw [if_neg hc] at hv
        refine jG.blk (st_Bd_hasFileRight) 1 (pc1 := 88) (L1 := [(1, (0, v1)), (0, (2, ((20 : Nat) : Int)))]) (st1 := [(0, 0)]) (h1 := h) rfl ?_
        cases hv
        exact jT.iret (st_Bd_hasFileRight) rfl (Or.inl rfl)
      · have hc : h 21 v5.toNat = 0 := Decidable.not_not.mp hc
        try rw [if_pos hc] at hv
        refine jG.blk (st_Bd_hasFileRight) 6 (pc1 := 68) (L1 := [(1, (0, v1)), (0, (2, ((20 : Nat) : Int)))]) (st1 := [(0, 3), (0, v1), (0, h 20 3), (2, ((21 : Nat) : Int))]) (h1 := h) rfl ?_
        obtain ⟨v6, hq, hv⟩ := Option.bind_eq_some_iff.mp hv
        refine jT.cSN (M1 := M_X_rankFor) [(0, v1), (0, 3)] [(0, h 20 3), (2, ((21 : Nat) : Int))] (st_Bd_hasFileRight) rfl rfl ok_X_rankFor rfl (Nat.le_of_ble_eq_true rfl) (Nat.le_of_ble_eq_true rfl) rfl (Nat.le_of_ble_eq_true rfl) (C_X_rankFor hq) ?_
        show jG E _ 71 [(1, (0, v1)), (0, (2, ((20 : Nat) : Int)))] [(0, v6), (0, h 20 3), (2, ((21 : Nat) : Int))] h _ _
        obtain ⟨v7, hq, hv⟩ := Option.bind_eq_some_iff.mp hv
        refine jT.cSN (M1 := M_X_squareAt) [(0, h 20 3), (0, v6)] [(2, ((21 : Nat) : Int))] (st_Bd_hasFileRight) rfl rfl ok_X_squareAt rfl (Nat.le_of_ble_eq_true rfl) (Nat.le_of_ble_eq_true rfl) rfl (Nat.le_of_ble_eq_true rfl) (C_X_squareAt hq) ?_
        show jG E _ 74 [(1, (0, v1)), (0, (2, ((20 : Nat) : Int)))] [(0, v7), (2, ((21 : Nat) : Int))] h _ _
        obtain ⟨hg, hv⟩ := jgd_some hv
        refine jT.iald (a := 21) (st_Bd_hasFileRight) rfl rfl (by decide) hg.1 hg.2 ?_
        refine jG.blk (st_Bd_hasFileRight) 2 (pc1 := 77) (L1 := [(1, (0, v1)), (0, (2, ((20 : Nat) : Int)))]) (st1 := [(0, v1), (0, 1), (0, h 21 v7.toNat)]) (h1 := h) rfl ?_
        obtain ⟨v8, hq, hv⟩ := Option.bind_eq_some_iff.mp hv
        refine jT.cSN (M1 := M_X_pieceOf) [(0, 1), (0, v1)] [(0, h 21 v7.toNat)] (st_Bd_hasFileRight) rfl rfl ok_X_pieceOf rfl (Nat.le_of_ble_eq_true rfl) (Nat.le_of_ble_eq_true rfl) rfl (Nat.le_of_ble_eq_true rfl) (C_X_pieceOf hq) ?_
        show jG E _ 80 [(1, (0, v1)), (0, (2, ((20 : Nat) : Int)))] [(0, v8), (0, h 21 v7.toNat)] h _ _
        refine jT.if2 (st_Bd_hasFileRight) rfl (tgt := 87) (by decide) (fun hc => ?_) (fun hc => ?_)
        · have hc : ¬ (h 21 v7.toNat = v8) := hc
          try rw [if_neg hc] at hv
          refine jG.blk (st_Bd_hasFileRight) 1 (pc1 := 88) (L1 := [(1, (0, v1)), (0, (2, ((20 : Nat) : Int)))]) (st1 := [(0, 0)]) (h1 := h) rfl ?_
          cases hv
          exact jT.iret (st_Bd_hasFileRight) rfl (Or.inl rfl)
        · have hc : h 21 v7.toNat = v8 := Decidable.not_not.mp hc
          try rw [if_pos hc] at hv
          refine jG.blk (st_Bd_hasFileRight) 1 (pc1 := 84) (L1 := [(1, (0, v1)), (0, (2, ((20 : Nat) : Int)))]) (st1 := [(0, 1)]) (h1 := h) rfl ?_
          refine jT.goto (st_Bd_hasFileRight) rfl (tgt := 88) (by decide) ?_
          cases hv
          exact jT.iret (st_Bd_hasFileRight) rfl (Or.inr rfl)
  · have hc : h 20 3 = (-1) := Decidable.not_not.mp hc
    try rw [if_pos hc] at hv
    refine jG.blk (st_Bd_hasFileRight) 1 (pc1 := 9) (L1 := [(0, (2, ((20 : Nat) : Int)))]) (st1 := [(0, 1)]) (h1 := h) rfl ?_
    cases hv
    exact jT.iret (st_Bd_hasFileRight) rfl (Or.inr rfl)
def f_Bd_kingSquare_lp9 (r : Nat) (h : jH) (x3 : Int) (k : Int → Option (Int)) : Nat → Int → Option (Int)
  | 0, _ => none
  | n + 1, l2 => if 64 ≤ l2 then k l2 else jgd (0 ≤ l2 ∧ l2 < 64) (if h (r + 1) l2.toNat = x3 then some l2 else f_Bd_kingSquare_lp9 r h x3 k n (jadd l2 1))
def f_Bd_kingSquare (r : Nat) (h : jH) (a1 : Int) : Option (Int) := (f_X_pieceOf h 6 a1).bind fun v1 => f_Bd_kingSquare_lp9 r h v1 (fun l4 => some (-1)) 1000 0
set_option maxRecDepth 100000 in
set_option maxHeartbeats 4000000 in
theorem f_Bd_kingSquare_lp9_ok (E : jE) (r : Nat) (hr : r = 2 ∨ r = 20) {h : jH} {x3 : Int} {k : Int → Option (Int)} (hk : ∀ (l2 : Int) (res : Int), k l2 = some res → jG E M_Bd_kingSquare 33 [] [] h (some (0, res)) h) : ∀ (n : Nat) (l2 : Int) (res : Int), f_Bd_kingSquare_lp9 r h x3 k n l2 = some res → jG E M_Bd_kingSquare 9 [(0, (2, ((r : Nat) : Int))), (2, (0, x3)), (3, (0, l2))] [] h (some (0, res)) h := by
  rcases hr with rfl | rfl
  · intro n
    induction n with
    | zero => intro l2 res hv; cases hv
    | succ n ih =>
      intro l2 res hv
      rw [f_Bd_kingSquare_lp9] at hv
      refine jG.blk (st_Bd_kingSquare) 2 (pc1 := 12) (L1 := [(0, (2, ((2 : Nat) : Int))), (2, (0, x3)), (3, (0, l2))]) (st1 := [(0, 64), (0, l2)]) (h1 := h) rfl ?_
      refine jT.if2 (st_Bd_kingSquare) rfl (tgt := 33) (by decide) (fun hc => ?_) (fun hc => ?_)
      · have hc : 64 ≤ l2 := hc
        try rw [if_pos hc] at hv
        refine jG.subp [] (L1 := []) rfl ?_
        exact hk _ _ hv
      · have hc : ¬ (64 ≤ l2) := hc
        try rw [if_neg hc] at hv
        refine jG.blk (st_Bd_kingSquare) 3 (pc1 := 20) (L1 := [(0, (2, ((2 : Nat) : Int))), (2, (0, x3)), (3, (0, l2))]) (st1 := [(0, l2), (2, ((2 + 1 : Nat) : Int))]) (h1 := h) rfl ?_
        obtain ⟨hg, hv⟩ := jgd_some hv
        refine jT.iald (a := 2 + 1) (st_Bd_kingSquare) rfl rfl (by decide) hg.1 hg.2 ?_
        refine jG.blk (st_Bd_kingSquare) 1 (pc1 := 22) (L1 := [(0, (2, ((2 : Nat) : Int))), (2, (0, x3)), (3, (0, l2))]) (st1 := [(0, x3), (0, h (2 + 1) l2.toNat)]) (h1 := h) rfl ?_
        refine jT.if2 (st_Bd_kingSquare) rfl (tgt := 27) (by decide) (fun hc => ?_) (fun hc => ?_)
        · have hc : ¬ (h (2 + 1) l2.toNat = x3) := hc
          try rw [if_neg hc] at hv
          refine jG.blk (st_Bd_kingSquare) 1 (pc1 := 30) (L1 := [(3, (0, jadd l2 1)), (0, (2, ((2 : Nat) : Int))), (2, (0, x3))]) (st1 := []) (h1 := h) rfl ?_
          refine jT.goto (st_Bd_kingSquare) rfl (tgt := 9) (by decide) ?_
          refine jG.subp [1, 2, 0] (L1 := [(0, (2, ((2 : Nat) : Int))), (2, (0, x3)), (3, (0, jadd l2 1))]) rfl ?_
          exact ih _ _ hv
        · have hc : h (2 + 1) l2.toNat = x3 := Decidable.not_not.mp hc
          try rw [if_pos hc] at hv
          refine jG.blk (st_Bd_kingSquare) 1 (pc1 := 26) (L1 := [(0, (2, ((2 : Nat) : Int))), (2, (0, x3)), (3, (0, l2))]) (st1 := [(0, l2)]) (h1 := h) rfl ?_
          cases hv
          exact jT.iret (st_Bd_kingSquare) rfl trivial
  · intro n
    induction n with
    | zero => intro l2 res hv; cases hv
    | succ n ih =>
      intro l2 res hv
      rw [f_Bd_kingSquare_lp9] at hv
      refine jG.blk (st_Bd_kingSquare) 2 (pc1 := 12) (L1 := [(0, (2, ((20 : Nat) : Int))), (2, (0, x3)), (3, (0, l2))]) (st1 := [(0, 64), (0, l2)]) (h1 := h) rfl ?_
      refine jT.if2 (st_Bd_kingSquare) rfl (tgt := 33) (by decide) (fun hc => ?_) (fun hc => ?_)
      · have hc : 64 ≤ l2 := hc
        try rw [if_pos hc] at hv
        refine jG.subp [] (L1 := []) rfl ?_
        exact hk _ _ hv
      · have hc : ¬ (64 ≤ l2) := hc
        try rw [if_neg hc] at hv
        refine jG.blk (st_Bd_kingSquare) 3 (pc1 := 20) (L1 := [(0, (2, ((20 : Nat) : Int))), (2, (0, x3)), (3, (0, l2))]) (st1 := [(0, l2), (2, ((20 + 1 : Nat) : Int))]) (h1 := h) rfl ?_
        obtain ⟨hg, hv⟩ := jgd_some hv
        refine jT.iald (a := 20 + 1) (st_Bd_kingSquare) rfl rfl (by decide) hg.1 hg.2 ?_
        refine jG.blk (st_Bd_kingSquare) 1 (pc1 := 22) (L1 := [(0, (2, ((20 : Nat) : Int))), (2, (0, x3)), (3, (0, l2))]) (st1 := [(0, x3), (0, h (20 + 1) l2.toNat)]) (h1 := h) rfl ?_
        refine jT.if2 (st_Bd_kingSquare) rfl (tgt := 27) (by decide) (fun hc => ?_) (fun hc => ?_)
        · have hc : ¬ (h (20 + 1) l2.toNat = x3) := hc
          try rw [if_neg hc] at hv
          refine jG.blk (st_Bd_kingSquare) 1 (pc1 := 30) (L1 := [(3, (0, jadd l2 1)), (0, (2, ((20 : Nat) : Int))), (2, (0, x3))]) (st1 := []) (h1 := h) rfl ?_
          refine jT.goto (st_Bd_kingSquare) rfl (tgt := 9) (by decide) ?_
          refine jG.subp [1, 2, 0] (L1 := [(0, (2, ((20 : Nat) : Int))), (2, (0, x3)), (3, (0, jadd l2 1))]) rfl ?_
          exact ih _ _ hv
        · have hc : h (20 + 1) l2.toNat = x3 := Decidable.not_not.mp hc
          try rw [if_pos hc] at hv
          refine jG.blk (st_Bd_kingSquare) 1 (pc1 := 26) (L1 := [(0, (2, ((20 : Nat) : Int))), (2, (0, x3)), (3, (0, l2))]) (st1 := [(0, l2)]) (h1 := h) rfl ?_
          cases hv
          exact jT.iret (st_Bd_kingSquare) rfl trivial
set_option maxRecDepth 100000 in
set_option maxHeartbeats 4000000 in
theorem C_Bd_kingSquare {E : jE} {r : Nat} (hr : r = 2 ∨ r = 20) {h : jH} {a1 : Int} {res : Int} (hv : f_Bd_kingSquare r h a1 = some res) : jC E M_Bd_kingSquare [(2, ((r : Nat) : Int)), (0, a1)] h (some (0, res)) h := by
  rcases hr with rfl | rfl
  · refine jC.of ok_Bd_kingSquare.1 (by rw [jlg]; exact Nat.le_of_ble_eq_true rfl) ?_
    show jG E _ 0 [(0, (2, ((2 : Nat) : Int))), (1, (0, a1))] [] h _ _
    unfold f_Bd_kingSquare at hv
    refine jG.blk (st_Bd_kingSquare) 2 (pc1 := 3) (L1 := [(0, (2, ((2 : Nat) : Int))), (1, (0, a1))]) (st1 := [(0, a1), (0, 6)]) (h1 := h) rfl ?_
    obtain ⟨v1, hq, hv⟩ := Option.bind_eq_some_iff.mp hv
    refine jT.cSN (M1 := M_X_pieceOf) [(0, 6), (0, a1)] [] (st_Bd_kingSquare) rfl rfl ok_X_pieceOf rfl (Nat.le_of_ble_eq_true rfl) (Nat.le_of_ble_eq_true rfl) rfl (Nat.le_of_ble_eq_true rfl) (C_X_pieceOf hq) ?_
    show jG E _ 6 [(0, (2, ((2 : Nat) : Int))), (1, (0, a1))] [(0, v1)] h _ _
    refine jG.blk (st_Bd_kingSquare) 3 (pc1 := 9) (L1 := [(3, (0, 0)), (2, (0, v1)), (0, (2, ((2 : Nat) : Int))), (1, (0, a1))]) (st1 := []) (h1 := h) rfl ?_
    refine jG.subp [2, 1, 0] (L1 := [(0, (2, ((2 : Nat) : Int))), (2, (0, v1)), (3, (0, 0))]) rfl ?_
    refine f_Bd_kingSquare_lp9_ok E 2 (by decide) (fun l4 res hv => ?_) 1000 _ _ hv
    · refine jG.blk (st_Bd_kingSquare) 1 (pc1 := 34) (L1 := []) (st1 := [(0, (-1))]) (h1 := h) rfl ?_
      cases hv
      exact jT.iret (st_Bd_kingSquare) rfl trivial
  · refine jC.of ok_Bd_kingSquare.1 (by rw [jlg]; exact Nat.le_of_ble_eq_true rfl) ?_
    show jG E _ 0 [(0, (2, ((20 : Nat) : Int))), (1, (0, a1))] [] h _ _
    unfold f_Bd_kingSquare at hv
    refine jG.blk (st_Bd_kingSquare) 2 (pc1 := 3) (L1 := [(0, (2, ((20 : Nat) : Int))), (1, (0, a1))]) (st1 := [(0, a1), (0, 6)]) (h1 := h) rfl ?_
    obtain ⟨v1, hq, hv⟩ := Option.bind_eq_some_iff.mp hv
    refine jT.cSN (M1 := M_X_pieceOf) [(0, 6), (0, a1)] [] (st_Bd_kingSquare) rfl rfl ok_X_pieceOf rfl (Nat.le_of_ble_eq_true rfl) (Nat.le_of_ble_eq_true rfl) rfl (Nat.le_of_ble_eq_true rfl) (C_X_pieceOf hq) ?_
    show jG E _ 6 [(0, (2, ((20 : Nat) : Int))), (1, (0, a1))] [(0, v1)] h _ _
    refine jG.blk (st_Bd_kingSquare) 3 (pc1 := 9) (L1 := [(3, (0, 0)), (2, (0, v1)), (0, (2, ((20 : Nat) : Int))), (1, (0, a1))]) (st1 := []) (h1 := h) rfl ?_
    refine jG.subp [2, 1, 0] (L1 := [(0, (2, ((20 : Nat) : Int))), (2, (0, v1)), (3, (0, 0))]) rfl ?_
    refine f_Bd_kingSquare_lp9_ok E 20 (by decide) (fun l4 res hv => ?_) 1000 _ _ hv
    · refine jG.blk (st_Bd_kingSquare) 1 (pc1 := 34) (L1 := []) (st1 := [(0, (-1))]) (h1 := h) rfl ?_
      cases hv
      exact jT.iret (st_Bd_kingSquare) rfl trivial
def f_Bd_firstAlong_lp18 (r : Nat) (h : jH) (x4 : Int) (k : Int → Int → Option (Int)) : Nat → Int → Int → Option (Int)
  | 0, _, _ => none
  | n + 1, l2, l3 => if 8 ≤ l3 then k l2 l3 else if l2 = (-1) then k l2 l3 else jgd (0 ≤ l2 ∧ l2 < 64) (if h (r + 1) l2.toNat = 0 then jgd (0 ≤ x4 ∧ x4 < (((jxc.getD 1 []).length : Nat) : Int)) (jgd (0 ≤ x4 ∧ x4 < (((jxc.getD 2 []).length : Nat) : Int)) ((f_X_shifted h l2 ((jxc.getD 1 []).getD x4.toNat 0) ((jxc.getD 2 []).getD x4.toNat 0)).bind fun v5 => f_Bd_firstAlong_lp18 r h x4 k n v5 (jadd l3 1))) else some l2)
def f_Bd_firstAlong (r : Nat) (h : jH) (a1 : Int) (a2 : Int) : Option (Int) := jgd (0 ≤ a2 ∧ a2 < (((jxc.getD 1 []).length : Nat) : Int)) (jgd (0 ≤ a2 ∧ a2 < (((jxc.getD 2 []).length : Nat) : Int)) ((f_X_shifted h a1 ((jxc.getD 1 []).getD a2.toNat 0) ((jxc.getD 2 []).getD a2.toNat 0)).bind fun v1 => f_Bd_firstAlong_lp18 r h a2 (fun l6 l7 => some (-1)) 1000 v1 1))
set_option maxRecDepth 100000 in
set_option maxHeartbeats 4000000 in
theorem f_Bd_firstAlong_lp18_ok (E : jE) (r : Nat) (hr : r = 2 ∨ r = 20) {h : jH} {x4 : Int} {k : Int → Int → Option (Int)} (hk : ∀ (l2 : Int) (l3 : Int) (res : Int), k l2 l3 = some res → jG E M_Bd_firstAlong 62 [] [] h (some (0, res)) h) : ∀ (n : Nat) (l2 : Int) (l3 : Int) (res : Int), f_Bd_firstAlong_lp18 r h x4 k n l2 l3 = some res → jG E M_Bd_firstAlong 18 [(0, (2, ((r : Nat) : Int))), (2, (0, x4)), (3, (0, l2)), (4, (0, l3))] [] h (some (0, res)) h := by
  rcases hr with rfl | rfl
  · intro n
    induction n with
    | zero => intro l2 l3 res hv; cases hv
    | succ n ih =>
      intro l2 l3 res hv
      rw [f_Bd_firstAlong_lp18] at hv
      refine jG.blk (st_Bd_firstAlong) 2 (pc1 := 22) (L1 := [(0, (2, ((2 : Nat) : Int))), (2, (0, x4)), (3, (0, l2)), (4, (0, l3))]) (st1 := [(0, 8), (0, l3)]) (h1 := h) rfl ?_
      refine jT.if2 (st_Bd_firstAlong) rfl (tgt := 62) (by decide) (fun hc => ?_) (fun hc => ?_)
      · have hc : 8 ≤ l3 := hc
        try rw [if_pos hc] at hv
        refine jG.subp [] (L1 := []) rfl ?_
        exact hk _ _ _ hv
      · have hc : ¬ (8 ≤ l3) := hc
        try rw [if_neg hc] at hv
        refine jG.blk (st_Bd_firstAlong) 2 (pc1 := 27) (L1 := [(0, (2, ((2 : Nat) : Int))), (2, (0, x4)), (3, (0, l2)), (4, (0, l3))]) (st1 := [(0, (-1)), (0, l2)]) (h1 := h) rfl ?_
        refine jT.if2 (st_Bd_firstAlong) rfl (tgt := 62) (by decide) (fun hc => ?_) (fun hc => ?_)
        · have hc : l2 = (-1) := hc
          try rw [if_pos hc] at hv
          refine jG.subp [] (L1 := []) rfl ?_
          exact hk _ _ _ hv
        · have hc : ¬ (l2 = (-1)) := hc
          try rw [if_neg hc] at hv
          refine jG.blk (st_Bd_firstAlong) 3 (pc1 := 35) (L1 := [(0, (2, ((2 : Nat) : Int))), (2, (0, x4)), (3, (0, l2)), (4, (0, l3))]) (st1 := [(0, l2), (2, ((2 + 1 : Nat) : Int))]) (h1 := h) rfl ?_
          obtain ⟨hg, hv⟩ := jgd_some hv
          refine jT.iald (a := 2 + 1) (st_Bd_firstAlong) rfl rfl (by decide) hg.1 hg.2 ?_
          refine jT.if1 (st_Bd_firstAlong) rfl (tgt := 41) (by decide) (fun hc => ?_) (fun hc => ?_)
          · have hc : h (2 + 1) l2.toNat = 0 := hc
            try rw [if_pos hc] at hv
            refine jG.blk (st_Bd_firstAlong) 3 (pc1 := 46) (L1 := [(0, (2, ((2 : Nat) : Int))), (2, (0, x4)), (3, (0, l2)), (4, (0, l3))]) (st1 := [(0, x4), (3, ((1 : Nat) : Int)), (0, l2)]) (h1 := h) rfl ?_
            obtain ⟨hg, hv⟩ := jgd_some hv
            refine jT.xald (x := 1) (st_Bd_firstAlong) rfl (by decide) rfl (jxl_small (by decide) (by decide)) hg.1 hg.2 (jxc_ok _ _) ?_
            refine jG.blk (st_Bd_firstAlong) 2 (pc1 := 51) (L1 := [(0, (2, ((2 : Nat) : Int))), (2, (0, x4)), (3, (0, l2)), (4, (0, l3))]) (st1 := [(0, x4), (3, ((2 : Nat) : Int)), (0, (jxc.getD 1 []).getD x4.toNat 0), (0, l2)]) (h1 := h) rfl ?_
            obtain ⟨hg, hv⟩ := jgd_some hv
            refine jT.xald (x := 2) (st_Bd_firstAlong) rfl (by decide) rfl (jxl_small (by decide) (by decide)) hg.1 hg.2 (jxc_ok _ _) ?_
            obtain ⟨v5, hq, hv⟩ := Option.bind_eq_some_iff.mp hv
            refine jT.cSN (M1 := M_X_shifted) [(0, l2), (0, (jxc.getD 1 []).getD x4.toNat 0), (0, (jxc.getD 2 []).getD x4.toNat 0)] [] (st_Bd_firstAlong) rfl rfl ok_X_shifted rfl (Nat.le_of_ble_eq_true rfl) (Nat.le_of_ble_eq_true rfl) rfl (Nat.le_of_ble_eq_true rfl) (C_X_shifted hq) ?_
            show jG E _ 55 [(0, (2, ((2 : Nat) : Int))), (2, (0, x4)), (3, (0, l2)), (4, (0, l3))] [(0, v5)] h _ _
            refine jG.blk (st_Bd_firstAlong) 2 (pc1 := 59) (L1 := [(4, (0, jadd l3 1)), (3, (0, v5)), (0, (2, ((2 : Nat) : Int))), (2, (0, x4))]) (st1 := []) (h1 := h) rfl ?_
            refine jT.goto (st_Bd_firstAlong) rfl (tgt := 18) (by decide) ?_
            refine jG.subp [2, 3, 1, 0] (L1 := [(0, (2, ((2 : Nat) : Int))), (2, (0, x4)), (3, (0, v5)), (4, (0, jadd l3 1))]) rfl ?_
            exact ih _ _ _ hv
          · have hc : ¬ (h (2 + 1) l2.toNat = 0) := hc
            try rw [if_neg hc] at hv
            refine jG.blk (st_Bd_firstAlong) 1 (pc1 := 40) (L1 := [(0, (2, ((2 : Nat) : Int))), (2, (0, x4)), (3, (0, l2)), (4, (0, l3))]) (st1 := [(0, l2)]) (h1 := h) rfl ?_
            cases hv
            exact jT.iret (st_Bd_firstAlong) rfl trivial
  · intro n
    induction n with
    | zero => intro l2 l3 res hv; cases hv
    | succ n ih =>
      intro l2 l3 res hv
      rw [f_Bd_firstAlong_lp18] at hv
      refine jG.blk (st_Bd_firstAlong) 2 (pc1 := 22) (L1 := [(0, (2, ((20 : Nat) : Int))), (2, (0, x4)), (3, (0, l2)), (4, (0, l3))]) (st1 := [(0, 8), (0, l3)]) (h1 := h) rfl ?_
      refine jT.if2 (st_Bd_firstAlong) rfl (tgt := 62) (by decide) (fun hc => ?_) (fun hc => ?_)
      · have hc : 8 ≤ l3 := hc
        try rw [if_pos hc] at hv
        refine jG.subp [] (L1 := []) rfl ?_
        exact hk _ _ _ hv
      · have hc : ¬ (8 ≤ l3) := hc
        try rw [if_neg hc] at hv
        refine jG.blk (st_Bd_firstAlong) 2 (pc1 := 27) (L1 := [(0, (2, ((20 : Nat) : Int))), (2, (0, x4)), (3, (0, l2)), (4, (0, l3))]) (st1 := [(0, (-1)), (0, l2)]) (h1 := h) rfl ?_
        refine jT.if2 (st_Bd_firstAlong) rfl (tgt := 62) (by decide) (fun hc => ?_) (fun hc => ?_)
        · have hc : l2 = (-1) := hc
          try rw [if_pos hc] at hv
          refine jG.subp [] (L1 := []) rfl ?_
          exact hk _ _ _ hv
        · have hc : ¬ (l2 = (-1)) := hc
          try rw [if_neg hc] at hv
          refine jG.blk (st_Bd_firstAlong) 3 (pc1 := 35) (L1 := [(0, (2, ((20 : Nat) : Int))), (2, (0, x4)), (3, (0, l2)), (4, (0, l3))]) (st1 := [(0, l2), (2, ((20 + 1 : Nat) : Int))]) (h1 := h) rfl ?_
          obtain ⟨hg, hv⟩ := jgd_some hv
          refine jT.iald (a := 20 + 1) (st_Bd_firstAlong) rfl rfl (by decide) hg.1 hg.2 ?_
          refine jT.if1 (st_Bd_firstAlong) rfl (tgt := 41) (by decide) (fun hc => ?_) (fun hc => ?_)
          · have hc : h (20 + 1) l2.toNat = 0 := hc
            try rw [if_pos hc] at hv
            refine jG.blk (st_Bd_firstAlong) 3 (pc1 := 46) (L1 := [(0, (2, ((20 : Nat) : Int))), (2, (0, x4)), (3, (0, l2)), (4, (0, l3))]) (st1 := [(0, x4), (3, ((1 : Nat) : Int)), (0, l2)]) (h1 := h) rfl ?_
            obtain ⟨hg, hv⟩ := jgd_some hv
            refine jT.xald (x := 1) (st_Bd_firstAlong) rfl (by decide) rfl (jxl_small (by decide) (by decide)) hg.1 hg.2 (jxc_ok _ _) ?_
            refine jG.blk (st_Bd_firstAlong) 2 (pc1 := 51) (L1 := [(0, (2, ((20 : Nat) : Int))), (2, (0, x4)), (3, (0, l2)), (4, (0, l3))]) (st1 := [(0, x4), (3, ((2 : Nat) : Int)), (0, (jxc.getD 1 []).getD x4.toNat 0), (0, l2)]) (h1 := h) rfl ?_
            obtain ⟨hg, hv⟩ := jgd_some hv
            refine jT.xald (x := 2) (st_Bd_firstAlong) rfl (by decide) rfl (jxl_small (by decide) (by decide)) hg.1 hg.2 (jxc_ok _ _) ?_
            obtain ⟨v5, hq, hv⟩ := Option.bind_eq_some_iff.mp hv
            refine jT.cSN (M1 := M_X_shifted) [(0, l2), (0, (jxc.getD 1 []).getD x4.toNat 0), (0, (jxc.getD 2 []).getD x4.toNat 0)] [] (st_Bd_firstAlong) rfl rfl ok_X_shifted rfl (Nat.le_of_ble_eq_true rfl) (Nat.le_of_ble_eq_true rfl) rfl (Nat.le_of_ble_eq_true rfl) (C_X_shifted hq) ?_
            show jG E _ 55 [(0, (2, ((20 : Nat) : Int))), (2, (0, x4)), (3, (0, l2)), (4, (0, l3))] [(0, v5)] h _ _
            refine jG.blk (st_Bd_firstAlong) 2 (pc1 := 59) (L1 := [(4, (0, jadd l3 1)), (3, (0, v5)), (0, (2, ((20 : Nat) : Int))), (2, (0, x4))]) (st1 := []) (h1 := h) rfl ?_
            refine jT.goto (st_Bd_firstAlong) rfl (tgt := 18) (by decide) ?_
            refine jG.subp [2, 3, 1, 0] (L1 := [(0, (2, ((20 : Nat) : Int))), (2, (0, x4)), (3, (0, v5)), (4, (0, jadd l3 1))]) rfl ?_
            exact ih _ _ _ hv
          · have hc : ¬ (h (20 + 1) l2.toNat = 0) := hc
            try rw [if_neg hc] at hv
            refine jG.blk (st_Bd_firstAlong) 1 (pc1 := 40) (L1 := [(0, (2, ((20 : Nat) : Int))), (2, (0, x4)), (3, (0, l2)), (4, (0, l3))]) (st1 := [(0, l2)]) (h1 := h) rfl ?_
            cases hv
            exact jT.iret (st_Bd_firstAlong) rfl trivial
set_option maxRecDepth 100000 in
set_option maxHeartbeats 4000000 in
theorem C_Bd_firstAlong {E : jE} {r : Nat} (hr : r = 2 ∨ r = 20) {h : jH} {a1 : Int} {a2 : Int} {res : Int} (hv : f_Bd_firstAlong r h a1 a2 = some res) : jC E M_Bd_firstAlong [(2, ((r : Nat) : Int)), (0, a1), (0, a2)] h (some (0, res)) h := by
  rcases hr with rfl | rfl
  · refine jC.of ok_Bd_firstAlong.1 (by rw [jlg]; exact Nat.le_of_ble_eq_true rfl) ?_
    show jG E _ 0 [(0, (2, ((2 : Nat) : Int))), (1, (0, a1)), (2, (0, a2))] [] h _ _
    unfold f_Bd_firstAlong at hv
    refine jG.blk (st_Bd_firstAlong) 3 (pc1 := 5) (L1 := [(0, (2, ((2 : Nat) : Int))), (1, (0, a1)), (2, (0, a2))]) (st1 := [(0, a2), (3, ((1 : Nat) : Int)), (0, a1)]) (h1 := h) rfl ?_
    obtain ⟨hg, hv⟩ := jgd_some hv
    refine jT.xald (x := 1) (st_Bd_firstAlong) rfl (by decide) rfl (jxl_small (by decide) (by decide)) hg.1 hg.2 (jxc_ok _ _) ?_
    refine jG.blk (st_Bd_firstAlong) 2 (pc1 := 10) (L1 := [(0, (2, ((2 : Nat) : Int))), (1, (0, a1)), (2, (0, a2))]) (st1 := [(0, a2), (3, ((2 : Nat) : Int)), (0, (jxc.getD 1 []).getD a2.toNat 0), (0, a1)]) (h1 := h) rfl ?_
    obtain ⟨hg, hv⟩ := jgd_some hv
    refine jT.xald (x := 2) (st_Bd_firstAlong) rfl (by decide) rfl (jxl_small (by decide) (by decide)) hg.1 hg.2 (jxc_ok _ _) ?_
    obtain ⟨v1, hq, hv⟩ := Option.bind_eq_some_iff.mp hv
    refine jT.cSN (M1 := M_X_shifted) [(0, a1), (0, (jxc.getD 1 []).getD a2.toNat 0), (0, (jxc.getD 2 []).getD a2.toNat 0)] [] (st_Bd_firstAlong) rfl rfl ok_X_shifted rfl (Nat.le_of_ble_eq_true rfl) (Nat.le_of_ble_eq_true rfl) rfl (Nat.le_of_ble_eq_true rfl) (C_X_shifted hq) ?_
    show jG E _ 14 [(0, (2, ((2 : Nat) : Int))), (1, (0, a1)), (2, (0, a2))] [(0, v1)] h _ _
    refine jG.blk (st_Bd_firstAlong) 3 (pc1 := 18) (L1 := [(4, (0, 1)), (3, (0, v1)), (0, (2, ((2 : Nat) : Int))), (1, (0, a1)), (2, (0, a2))]) (st1 := []) (h1 := h) rfl ?_
    refine jG.subp [2, 4, 1, 0] (L1 := [(0, (2, ((2 : Nat) : Int))), (2, (0, a2)), (3, (0, v1)), (4, (0, 1))]) rfl ?_
    refine f_Bd_firstAlong_lp18_ok E 2 (by decide) (fun l6 l7 res hv => ?_) 1000 _ _ _ hv
    · refine jG.blk (st_Bd_firstAlong) 1 (pc1 := 63) (L1 := []) (st1 := [(0, (-1))]) (h1 := h) rfl ?_
      cases hv
      exact jT.iret (st_Bd_firstAlong) rfl trivial
  · refine jC.of ok_Bd_firstAlong.1 (by rw [jlg]; exact Nat.le_of_ble_eq_true rfl) ?_
    show jG E _ 0 [(0, (2, ((20 : Nat) : Int))), (1, (0, a1)), (2, (0, a2))] [] h _ _
    unfold f_Bd_firstAlong at hv
    refine jG.blk (st_Bd_firstAlong) 3 (pc1 := 5) (L1 := [(0, (2, ((20 : Nat) : Int))), (1, (0, a1)), (2, (0, a2))]) (st1 := [(0, a2), (3, ((1 : Nat) : Int)), (0, a1)]) (h1 := h) rfl ?_
    obtain ⟨hg, hv⟩ := jgd_some hv
    refine jT.xald (x := 1) (st_Bd_firstAlong) rfl (by decide) rfl (jxl_small (by decide) (by decide)) hg.1 hg.2 (jxc_ok _ _) ?_
    refine jG.blk (st_Bd_firstAlong) 2 (pc1 := 10) (L1 := [(0, (2, ((20 : Nat) : Int))), (1, (0, a1)), (2, (0, a2))]) (st1 := [(0, a2), (3, ((2 : Nat) : Int)), (0, (jxc.getD 1 []).getD a2.toNat 0), (0, a1)]) (h1 := h) rfl ?_
    obtain ⟨hg, hv⟩ := jgd_some hv
    refine jT.xald (x := 2) (st_Bd_firstAlong) rfl (by decide) rfl (jxl_small (by decide) (by decide)) hg.1 hg.2 (jxc_ok _ _) ?_
    obtain ⟨v1, hq, hv⟩ := Option.bind_eq_some_iff.mp hv
    refine jT.cSN (M1 := M_X_shifted) [(0, a1), (0, (jxc.getD 1 []).getD a2.toNat 0), (0, (jxc.getD 2 []).getD a2.toNat 0)] [] (st_Bd_firstAlong) rfl rfl ok_X_shifted rfl (Nat.le_of_ble_eq_true rfl) (Nat.le_of_ble_eq_true rfl) rfl (Nat.le_of_ble_eq_true rfl) (C_X_shifted hq) ?_
    show jG E _ 14 [(0, (2, ((20 : Nat) : Int))), (1, (0, a1)), (2, (0, a2))] [(0, v1)] h _ _
    refine jG.blk (st_Bd_firstAlong) 3 (pc1 := 18) (L1 := [(4, (0, 1)), (3, (0, v1)), (0, (2, ((20 : Nat) : Int))), (1, (0, a1)), (2, (0, a2))]) (st1 := []) (h1 := h) rfl ?_
    refine jG.subp [2, 4, 1, 0] (L1 := [(0, (2, ((20 : Nat) : Int))), (2, (0, a2)), (3, (0, v1)), (4, (0, 1))]) rfl ?_
    refine f_Bd_firstAlong_lp18_ok E 20 (by decide) (fun l6 l7 res hv => ?_) 1000 _ _ _ hv
    · refine jG.blk (st_Bd_firstAlong) 1 (pc1 := 63) (L1 := []) (st1 := [(0, (-1))]) (h1 := h) rfl ?_
      cases hv
      exact jT.iret (st_Bd_firstAlong) rfl trivial
def f_Bd_attacksAgainst (r : Nat) (h : jH) (a1 : Int) (a2 : Int) (a3 : Int) : Option (Int) := jgd (0 ≤ a1 ∧ a1 < 64) ((f_X_kindOf h (h (r + 1) a1.toNat)).bind fun v1 => if v1 = 1 then if (if 0 ≤ (jsub (jand a1 7) (jand a2 7)) then (jsub (jand a1 7) (jand a2 7)) else jsub 0 (jsub (jand a1 7) (jand a2 7))) = 1 then jgd (0 ≤ a1 ∧ a1 < 64) ((f_X_sideOf h (h (r + 1) a1.toNat)).bind fun v3 => (f_X_forwardOf h v3).bind fun v4 => some (if jsub (jshr a2 3) (jshr a1 3) = v4 then 1 else 0)) else some 0 else (f_X_reachOf h v1 a3).bind fun v2 => some (if v2 < (if (if 0 ≤ (jsub (jand a1 7) (jand a2 7)) then (jsub (jand a1 7) (jand a2 7)) else jsub 0 (jsub (jand a1 7) (jand a2 7))) < (if 0 ≤ (jsub (jshr a2 3) (jshr a1 3)) then (jsub (jshr a2 3) (jshr a1 3)) else jsub 0 (jsub (jshr a2 3) (jshr a1 3))) then (if 0 ≤ (jsub (jshr a2 3) (jshr a1 3)) then (jsub (jshr a2 3) (jshr a1 3)) else jsub 0 (jsub (jshr a2 3) (jshr a1 3))) else (if 0 ≤ (jsub (jand a1 7) (jand a2 7)) then (jsub (jand a1 7) (jand a2 7)) else jsub 0 (jsub (jand a1 7) (jand a2 7)))) then 0 else 1))
set_option maxRecDepth 100000 in
set_option maxHeartbeats 4000000 in
theorem C_Bd_attacksAgainst {E : jE} {r : Nat} (hr : r = 2 ∨ r = 20) {h : jH} {a1 : Int} {a2 : Int} {a3 : Int} {res : Int} (hv : f_Bd_attacksAgainst r h a1 a2 a3 = some res) : jC E M_Bd_attacksAgainst [(2, ((r : Nat) : Int)), (0, a1), (0, a2), (0, a3)] h (some (0, res)) h := by
  rcases hr with rfl | rfl
  · refine jC.of ok_Bd_attacksAgainst.1 (by rw [jlg]; exact Nat.le_of_ble_eq_true rfl) ?_
    show jG E _ 0 [(0, (2, ((2 : Nat) : Int))), (1, (0, a1)), (2, (0, a2)), (3, (0, a3))] [] h _ _
    unfold f_Bd_attacksAgainst at hv
    refine jG.blk (st_Bd_attacksAgainst) 3 (pc1 := 5) (L1 := [(0, (2, ((2 : Nat) : Int))), (1, (0, a1)), (2, (0, a2)), (3, (0, a3))]) (st1 := [(0, a1), (2, ((2 + 1 : Nat) : Int))]) (h1 := h) rfl ?_
    obtain ⟨hg, hv⟩ := jgd_some hv
    refine jT.iald (a := 2 + 1) (st_Bd_attacksAgainst) rfl rfl (by decide) hg.1 hg.2 ?_
    obtain ⟨v1, hq, hv⟩ := Option.bind_eq_some_iff.mp hv
    refine jT.cSN (M1 := M_X_kindOf) [(0, h (2 + 1) a1.toNat)] [] (st_Bd_attacksAgainst) rfl rfl ok_X_kindOf rfl (Nat.le_of_ble_eq_true rfl) (Nat.le_of_ble_eq_true rfl) rfl (Nat.le_of_ble_eq_true rfl) (C_X_kindOf hq) ?_
    show jG E _ 9 [(0, (2, ((2 : Nat) : Int))), (1, (0, a1)), (2, (0, a2)), (3, (0, a3))] [(0, v1)] h _ _
    refine jG.blk (st_Bd_attacksAgainst) 8 (pc1 := 20) (L1 := [(4, (0, v1)), (0, (2, ((2 : Nat) : Int))), (1, (0, a1)), (2, (0, a2)), (3, (0, a3))]) (st1 := [(0, jsub (jand a1 7) (jand a2 7))]) (h1 := h) rfl ?_
    refine jT.mabs (a := (jsub (jand a1 7) (jand a2 7))) (rest := []) (st_Bd_attacksAgainst) rfl (Nat.le_of_ble_eq_true rfl) (Nat.le_of_ble_eq_true rfl) (Nat.le_of_ble_eq_true rfl) ?_
    refine jG.blk (st_Bd_attacksAgainst) 11 (pc1 := 37) (L1 := [(6, (0, jsub (jshr a2 3) (jshr a1 3))), (5, (0, if 0 ≤ (jsub (jand a1 7) (jand a2 7)) then (jsub (jand a1 7) (jand a2 7)) else jsub 0 (jsub (jand a1 7) (jand a2 7)))), (4, (0, v1)), (0, (2, ((2 : Nat) : Int))), (1, (0, a1)), (2, (0, a2)), (3, (0, a3))]) (st1 := [(0, 1), (0, v1)]) (h1 := h) rfl ?_
    refine jT.if2 (st_Bd_attacksAgainst) rfl (tgt := 69) (by decide) (fun hc => ?_) (fun hc => ?_)
    · have hc : ¬ (v1 = 1) := hc
      try rw [if_neg hc] at hv
      refine jG.blk (st_Bd_attacksAgainst) 2 (pc1 := 73) (L1 := [(6, (0, jsub (jshr a2 3) (jshr a1 3))), (5, (0, if 0 ≤ (jsub (jand a1 7) (jand a2 7)) then (jsub (jand a1 7) (jand a2 7)) else jsub 0 (jsub (jand a1 7) (jand a2 7)))), (4, (0, v1)), (0, (2, ((2 : Nat) : Int))), (1, (0, a1)), (2, (0, a2)), (3, (0, a3))]) (st1 := [(0, jsub (jshr a2 3) (jshr a1 3)), (0, if 0 ≤ (jsub (jand a1 7) (jand a2 7)) then (jsub (jand a1 7) (jand a2 7)) else jsub 0 (jsub (jand a1 7) (jand a2 7)))]) (h1 := h) rfl ?_
      refine jT.mabs (a := (jsub (jshr a2 3) (jshr a1 3))) (rest := [(0, if 0 ≤ (jsub (jand a1 7) (jand a2 7)) then (jsub (jand a1 7) (jand a2 7)) else jsub 0 (jsub (jand a1 7) (jand a2 7)))]) (st_Bd_attacksAgainst) rfl (Nat.le_of_ble_eq_true rfl) (Nat.le_of_ble_eq_true rfl) (Nat.le_of_ble_eq_true rfl) ?_
      refine jT.mmax (a := (if 0 ≤ (jsub (jand a1 7) (jand a2 7)) then (jsub (jand a1 7) (jand a2 7)) else jsub 0 (jsub (jand a1 7) (jand a2 7)))) (b := (if 0 ≤ (jsub (jshr a2 3) (jshr a1 3)) then (jsub (jshr a2 3) (jshr a1 3)) else jsub 0 (jsub (jshr a2 3) (jshr a1 3)))) (rest := []) (st_Bd_attacksAgainst) rfl (Nat.le_of_ble_eq_true rfl) (Nat.le_of_ble_eq_true rfl) (Nat.le_of_ble_eq_true rfl) ?_
      refine jG.blk (st_Bd_attacksAgainst) 2 (pc1 := 82) (L1 := [(6, (0, jsub (jshr a2 3) (jshr a1 3))), (5, (0, if 0 ≤ (jsub (jand a1 7) (jand a2 7)) then (jsub (jand a1 7) (jand a2 7)) else jsub 0 (jsub (jand a1 7) (jand a2 7)))), (4, (0, v1)), (0, (2, ((2 : Nat) : Int))), (1, (0, a1)), (2, (0, a2)), (3, (0, a3))]) (st1 := [(0, a3), (0, v1), (0, if (if 0 ≤ (jsub (jand a1 7) (jand a2 7)) then (jsub (jand a1 7) (jand a2 7)) else jsub 0 (jsub (jand a1 7) (jand a2 7))) < (if 0 ≤ (jsub (jshr a2 3) (jshr a1 3)) then (jsub (jshr a2 3) (jshr a1 3)) else jsub 0 (jsub (jshr a2 3) (jshr a1 3))) then (if 0 ≤ (jsub (jshr a2 3) (jshr a1 3)) then (jsub (jshr a2 3) (jshr a1 3)) else jsub 0 (jsub (jshr a2 3) (jshr a1 3))) else (if 0 ≤ (jsub (jand a1 7) (jand a2 7)) then (jsub (jand a1 7) (jand a2 7)) else jsub 0 (jsub (jand a1 7) (jand a2 7))))]) (h1 := h) rfl ?_
      obtain ⟨v2, hq, hv⟩ := Option.bind_eq_some_iff.mp hv
      refine jT.cSN (M1 := M_X_reachOf) [(0, v1), (0, a3)] [(0, if (if 0 ≤ (jsub (jand a1 7) (jand a2 7)) then (jsub (jand a1 7) (jand a2 7)) else jsub 0 (jsub (jand a1 7) (jand a2 7))) < (if 0 ≤ (jsub (jshr a2 3) (jshr a1 3)) then (jsub (jshr a2 3) (jshr a1 3)) else jsub 0 (jsub (jshr a2 3) (jshr a1 3))) then (if 0 ≤ (jsub (jshr a2 3) (jshr a1 3)) then (jsub (jshr a2 3) (jshr a1 3)) else jsub 0 (jsub (jshr a2 3) (jshr a1 3))) else (if 0 ≤ (jsub (jand a1 7) (jand a2 7)) then (jsub (jand a1 7) (jand a2 7)) else jsub 0 (jsub (jand a1 7) (jand a2 7))))] (st_Bd_attacksAgainst) rfl rfl ok_X_reachOf rfl (Nat.le_of_ble_eq_true rfl) (Nat.le_of_ble_eq_true rfl) rfl (Nat.le_of_ble_eq_true rfl) (C_X_reachOf hq) ?_
      show jG E _ 85 [(6, (0, jsub (jshr a2 3) (jshr a1 3))), (5, (0, if 0 ≤ (jsub (jand a1 7) (jand a2 7)) then (jsub (jand a1 7) (jand a2 7)) else jsub 0 (jsub (jand a1 7) (jand a2 7)))), (4, (0, v1)), (0, (2, ((2 : Nat) : Int))), (1, (0, a1)), (2, (0, a2)), (3, (0, a3))] [(0, v2), (0, if (if 0 ≤ (jsub (jand a1 7) (jand a2 7)) then (jsub (jand a1 7) (jand a2 7)) else jsub 0 (jsub (jand a1 7) (jand a2 7))) < (if 0 ≤ (jsub (jshr a2 3) (jshr a1 3)) then (jsub (jshr a2 3) (jshr a1 3)) else jsub 0 (jsub (jshr a2 3) (jshr a1 3))) then (if 0 ≤ (jsub (jshr a2 3) (jshr a1 3)) then (jsub (jshr a2 3) (jshr a1 3)) else jsub 0 (jsub (jshr a2 3) (jshr a1 3))) else (if 0 ≤ (jsub (jand a1 7) (jand a2 7)) then (jsub (jand a1 7) (jand a2 7)) else jsub 0 (jsub (jand a1 7) (jand a2 7))))] h _ _
      refine jT.if2 (st_Bd_attacksAgainst) rfl (tgt := 92) (by decide) (fun hc => ?_) (fun hc => ?_)
      · have hc : v2 < (if (if 0 ≤ (jsub (jand a1 7) (jand a2 7)) then (jsub (jand a1 7) (jand a2 7)) else jsub 0 (jsub (jand a1 7) (jand a2 7))) < (if 0 ≤ (jsub (jshr a2 3) (jshr a1 3)) then (jsub (jshr a2 3) (jshr a1 3)) else jsub 0 (jsub (jshr a2 3) (jshr a1 3))) then (if 0 ≤ (jsub (jshr a2 3) (jshr a1 3)) then (jsub (jshr a2 3) (jshr a1 3)) else jsub 0 (jsub (jshr a2 3) (jshr a1 3))) else (if 0 ≤ (jsub (jand a1 7) (jand a2 7)) then (jsub (jand a1 7) (jand a2 7)) else jsub 0 (jsub (jand a1 7) (jand a2 7)))) := hc
        try rw [if_pos hc] at hv
        refine jG.blk (st_Bd_attacksAgainst) 1 (pc1 := 93) (L1 := [(6, (0, jsub (jshr a2 3) (jshr a1 3))), (5, (0, if 0 ≤ (jsub (jand a1 7) (jand a2 7)) then (jsub (jand a1 7) (jand a2 7)) else jsub 0 (jsub (jand a1 7) (jand a2 7)))), (4, (0, v1)), (0, (2, ((2 : Nat) : Int))), (1, (0, a1)), (2, (0, a2)), (3, (0, a3))]) (st1 := [(0, 0)]) (h1 := h) rfl ?_
        cases hv
        exact jT.iret (st_Bd_attacksAgainst) rfl (Or.inl rfl)
      · have hc : ¬ (v2 < (if (if 0 ≤ (jsub (jand a1 7) (jand a2 7)) then (jsub (jand a1 7) (jand a2 7)) else jsub 0 (jsub (jand a1 7) (jand a2 7))) < (if 0 ≤ (jsub (jshr a2 3) (jshr a1 3)) then (jsub (jshr a2 3) (jshr a1 3)) else jsub 0 (jsub (jshr a2 3) (jshr a1 3))) then (if 0 ≤ (jsub (jshr a2 3) (jshr a1 3)) then (jsub (jshr a2 3) (jshr a1 3)) else jsub 0 (jsub (jshr a2 3) (jshr a1 3))) else (if 0 ≤ (jsub (jand a1 7) (jand a2 7)) then (jsub (jand a1 7) (jand a2 7)) else jsub 0 (jsub (jand a1 7) (jand a2 7))))) := hc
        try rw [if_neg hc] at hv
        refine jG.blk (st_Bd_attacksAgainst) 1 (pc1 := 89) (L1 := [(6, (0, jsub (jshr a2 3) (jshr a1 3))), (5, (0, if 0 ≤ (jsub (jand a1 7) (jand a2 7)) then (jsub (jand a1 7) (jand a2 7)) else jsub 0 (jsub (jand a1 7) (jand a2 7)))), (4, (0, v1)), (0, (2, ((2 : Nat) : Int))), (1, (0, a1)), (2, (0, a2)), (3, (0, a3))]) (st1 := [(0, 1)]) (h1 := h) rfl ?_
        refine jT.goto (st_Bd_attacksAgainst) rfl (tgt := 93) (by decide) ?_
        cases hv
        exact jT.iret (st_Bd_attacksAgainst) rfl (Or.inr rfl)
    · have hc : v1 = 1 := Decidable.not_not.mp hc
      try rw [if_pos hc] at hv
      refine jG.blk (st_Bd_attacksAgainst) 2 (pc1 := 43) (L1 := [(6, (0, jsub (jshr a2 3) (jshr a1 3))), (5, (0, if 0 ≤ (jsub (jand a1 7) (jand a2 7)) then (jsub (jand a1 7) (jand a2 7)) else jsub 0 (jsub (jand a1 7) (jand a2 7)))), (4, (0, v1)), (0, (2, ((2 : Nat) : Int))), (1, (0, a1)), (2, (0, a2)), (3, (0, a3))]) (st1 := [(0, 1), (0, if 0 ≤ (jsub (jand a1 7) (jand a2 7)) then (jsub (jand a1 7) (jand a2 7)) else jsub 0 (jsub (jand a1 7) (jand a2 7)))]) (h1 := h) rfl ?_
      refine jT.if2 (st_Bd_attacksAgainst) rfl (tgt := 67) (by decide) (fun hc => ?_) (fun hc => ?_)
      · have hc : ¬ ((if 0 ≤ (jsub (jand a1 7) (jand a2 7)) then (jsub (jand a1 7) (jand a2 7)) else jsub 0 (jsub (jand a1 7) (jand a2 7))) = 1) := hc
        try rw [if_neg hc] at hv
        refine jG.blk (st_Bd_attacksAgainst) 1 (pc1 := 68) (L1 := [(6, (0, jsub (jshr a2 3) (jshr a1 3))), (5, (0, if 0 ≤ (jsub (jand a1 7) (jand a2 7)) then (jsub (jand a1 7) (jand a2 7)) else jsub 0 (jsub (jand a1 7) (jand a2 7)))), (4, (0, v1)), (0, (2, ((2 : Nat) : Int))), (1, (0, a1)), (2, (0, a2)), (3, (0, a3))]) (st1 := [(0, 0)]) (h1 := h) rfl ?_
        cases hv
        exact jT.iret (st_Bd_attacksAgainst) rfl (Or.inl rfl)
      · have hc : (if 0 ≤ (jsub (jand a1 7) (jand a2 7)) then (jsub (jand a1 7) (jand a2 7)) else jsub 0 (jsub (jand a1 7) (jand a2 7))) = 1 := Decidable.not_not.mp hc
        try rw [if_pos hc] at hv
        refine jG.blk (st_Bd_attacksAgainst) 4 (pc1 := 53) (L1 := [(6, (0, jsub (jshr a2 3) (jshr a1 3))), (5, (0, if 0 ≤ (jsub (jand a1 7) (jand a2 7)) then (jsub (jand a1 7) (jand a2 7)) else jsub 0 (jsub (jand a1 7) (jand a2 7)))), (4, (0, v1)), (0, (2, ((2 : Nat) : Int))), (1, (0, a1)), (2, (0, a2)), (3, (0, a3))]) (st1 := [(0, a1), (2, ((2 + 1 : Nat) : Int)), (0, jsub (jshr a2 3) (jshr a1 3))]) (h1 := h) rfl ?_
        obtain ⟨hg, hv⟩ := jgd_some hv
        refine jT.iald (a := 2 + 1) (st_Bd_attacksAgainst) rfl rfl (by decide) hg.1 hg.2 ?_
        obtain ⟨v3, hq, hv⟩ := Option.bind_eq_some_iff.mp hv
        refine jT.cSN (M1 := M_X_sideOf) [(0, h (2 + 1) a1.toNat)] [(0, jsub (jshr a2 3) (jshr a1 3))] (st_Bd_attacksAgainst) rfl rfl ok_X_sideOf rfl (Nat.le_of_ble_eq_true rfl) (Nat.le_of_ble_eq_true rfl) rfl (Nat.le_of_ble_eq_true rfl) (C_X_sideOf hq) ?_
        show jG E _ 57 [(6, (0, jsub (jshr a2 3) (jshr a1 3))), (5, (0, if 0 ≤ (jsub (jand a1 7) (jand a2 7)) then (jsub (jand a1 7) (jand a2 7)) else jsub 0 (jsub (jand a1 7) (jand a2 7)))), (4, (0, v1)), (0, (2, ((2 : Nat) : Int))), (1, (0, a1)), (2, (0, a2)), (3, (0, a3))] [(0, v3), (0, jsub (jshr a2 3) (jshr a1 3))] h _ _
        obtain ⟨v4, hq, hv⟩ := Option.bind_eq_some_iff.mp hv
        refine jT.cSN (M1 := M_X_forwardOf) [(0, v3)] [(0, jsub (jshr a2 3) (jshr a1 3))] (st_Bd_attacksAgainst) rfl rfl ok_X_forwardOf rfl (Nat.le_of_ble_eq_true rfl) (Nat.le_of_ble_eq_true rfl) rfl (Nat.le_of_ble_eq_true rfl) (C_X_forwardOf hq) ?_
        show jG E _ 60 [(6, (0, jsub (jshr a2 3) (jshr a1 3))), (5, (0, if 0 ≤ (jsub (jand a1 7) (jand a2 7)) then (jsub (jand a1 7) (jand a2 7)) else jsub 0 (jsub (jand a1 7) (jand a2 7)))), (4, (0, v1)), (0, (2, ((2 : Nat) : Int))), (1, (0, a1)), (2, (0, a2)), (3, (0, a3))] [(0, v4), (0, jsub (jshr a2 3) (jshr a1 3))] h _ _
        refine jT.if2 (st_Bd_attacksAgainst) rfl (tgt := 67) (by decide) (fun hc => ?_) (fun hc => ?_)
        · have hc : ¬ (jsub (jshr a2 3) (jshr a1 3) = v4) := hc
          try rw [if_neg hc] at hv
          refine jG.blk (st_Bd_attacksAgainst) 1 (pc1 := 68) (L1 := [(6, (0, jsub (jshr a2 3) (jshr a1 3))), (5, (0, if 0 ≤ (jsub (jand a1 7) (jand a2 7)) then (jsub (jand a1 7) (jand a2 7)) else jsub 0 (jsub (jand a1 7) (jand a2 7)))), (4, (0, v1)), (0, (2, ((2 : Nat) : Int))), (1, (0, a1)), (2, (0, a2)), (3, (0, a3))]) (st1 := [(0, 0)]) (h1 := h) rfl ?_
          cases hv
          exact jT.iret (st_Bd_attacksAgainst) rfl (Or.inl rfl)
        · have hc : jsub (jshr a2 3) (jshr a1 3) = v4 := Decidable.not_not.mp hc
          try rw [if_pos hc] at hv
          refine jG.blk (st_Bd_attacksAgainst) 1 (pc1 := 64) (L1 := [(6, (0, jsub (jshr a2 3) (jshr a1 3))), (5, (0, if 0 ≤ (jsub (jand a1 7) (jand a2 7)) then (jsub (jand a1 7) (jand a2 7)) else jsub 0 (jsub (jand a1 7) (jand a2 7)))), (4, (0, v1)), (0, (2, ((2 : Nat) : Int))), (1, (0, a1)), (2, (0, a2)), (3, (0, a3))]) (st1 := [(0, 1)]) (h1 := h) rfl ?_
          refine jT.goto (st_Bd_attacksAgainst) rfl (tgt := 68) (by decide) ?_
          cases hv
          exact jT.iret (st_Bd_attacksAgainst) rfl (Or.inr rfl)
  · refine jC.of ok_Bd_attacksAgainst.1 (by rw [jlg]; exact Nat.le_of_ble_eq_true rfl) ?_
    show jG E _ 0 [(0, (2, ((20 : Nat) : Int))), (1, (0, a1)), (2, (0, a2)), (3, (0, a3))] [] h _ _
    unfold f_Bd_attacksAgainst at hv
    refine jG.blk (st_Bd_attacksAgainst) 3 (pc1 := 5) (L1 := [(0, (2, ((20 : Nat) : Int))), (1, (0, a1)), (2, (0, a2)), (3, (0, a3))]) (st1 := [(0, a1), (2, ((20 + 1 : Nat) : Int))]) (h1 := h) rfl ?_
    obtain ⟨hg, hv⟩ := jgd_some hv
    refine jT.iald (a := 20 + 1) (st_Bd_attacksAgainst) rfl rfl (by decide) hg.1 hg.2 ?_
    obtain ⟨v1, hq, hv⟩ := Option.bind_eq_some_iff.mp hv
    refine jT.cSN (M1 := M_X_kindOf) [(0, h (20 + 1) a1.toNat)] [] (st_Bd_attacksAgainst) rfl rfl ok_X_kindOf rfl (Nat.le_of_ble_eq_true rfl) (Nat.le_of_ble_eq_true rfl) rfl (Nat.le_of_ble_eq_true rfl) (C_X_kindOf hq) ?_
    show jG E _ 9 [(0, (2, ((20 : Nat) : Int))), (1, (0, a1)), (2, (0, a2)), (3, (0, a3))] [(0, v1)] h _ _
    refine jG.blk (st_Bd_attacksAgainst) 8 (pc1 := 20) (L1 := [(4, (0, v1)), (0, (2, ((20 : Nat) : Int))), (1, (0, a1)), (2, (0, a2)), (3, (0, a3))]) (st1 := [(0, jsub (jand a1 7) (jand a2 7))]) (h1 := h) rfl ?_
    refine jT.mabs (a := (jsub (jand a1 7) (jand a2 7))) (rest := []) (st_Bd_attacksAgainst) rfl (Nat.le_of_ble_eq_true rfl) (Nat.le_of_ble_eq_true rfl) (Nat.le_of_ble_eq_true rfl) ?_
    refine jG.blk (st_Bd_attacksAgainst) 11 (pc1 := 37) (L1 := [(6, (0, jsub (jshr a2 3) (jshr a1 3))), (5, (0, if 0 ≤ (jsub (jand a1 7) (jand a2 7)) then (jsub (jand a1 7) (jand a2 7)) else jsub 0 (jsub (jand a1 7) (jand a2 7)))), (4, (0, v1)), (0, (2, ((20 : Nat) : Int))), (1, (0, a1)), (2, (0, a2)), (3, (0, a3))]) (st1 := [(0, 1), (0, v1)]) (h1 := h) rfl ?_
    refine jT.if2 (st_Bd_attacksAgainst) rfl (tgt := 69) (by decide) (fun hc => ?_) (fun hc => ?_)
    · have hc : ¬ (v1 = 1) := hc
      try rw [if_neg hc] at hv
      refine jG.blk (st_Bd_attacksAgainst) 2 (pc1 := 73) (L1 := [(6, (0, jsub (jshr a2 3) (jshr a1 3))), (5, (0, if 0 ≤ (jsub (jand a1 7) (jand a2 7)) then (jsub (jand a1 7) (jand a2 7)) else jsub 0 (jsub (jand a1 7) (jand a2 7)))), (4, (0, v1)), (0, (2, ((20 : Nat) : Int))), (1, (0, a1)), (2, (0, a2)), (3, (0, a3))]) (st1 := [(0, jsub (jshr a2 3) (jshr a1 3)), (0, if 0 ≤ (jsub (jand a1 7) (jand a2 7)) then (jsub (jand a1 7) (jand a2 7)) else jsub 0 (jsub (jand a1 7) (jand a2 7)))]) (h1 := h) rfl ?_
      refine jT.mabs (a := (jsub (jshr a2 3) (jshr a1 3))) (rest := [(0, if 0 ≤ (jsub (jand a1 7) (jand a2 7)) then (jsub (jand a1 7) (jand a2 7)) else jsub 0 (jsub (jand a1 7) (jand a2 7)))]) (st_Bd_attacksAgainst) rfl (Nat.le_of_ble_eq_true rfl) (Nat.le_of_ble_eq_true rfl) (Nat.le_of_ble_eq_true rfl) ?_
      refine jT.mmax (a := (if 0 ≤ (jsub (jand a1 7) (jand a2 7)) then (jsub (jand a1 7) (jand a2 7)) else jsub 0 (jsub (jand a1 7) (jand a2 7)))) (b := (if 0 ≤ (jsub (jshr a2 3) (jshr a1 3)) then (jsub (jshr a2 3) (jshr a1 3)) else jsub 0 (jsub (jshr a2 3) (jshr a1 3)))) (rest := []) (st_Bd_attacksAgainst) rfl (Nat.le_of_ble_eq_true rfl) (Nat.le_of_ble_eq_true rfl) (Nat.le_of_ble_eq_true rfl) ?_
      refine jG.blk (st_Bd_attacksAgainst) 2 (pc1 := 82) (L1 := [(6, (0, jsub (jshr a2 3) (jshr a1 3))), (5, (0, if 0 ≤ (jsub (jand a1 7) (jand a2 7)) then (jsub (jand a1 7) (jand a2 7)) else jsub 0 (jsub (jand a1 7) (jand a2 7)))), (4, (0, v1)), (0, (2, ((20 : Nat) : Int))), (1, (0, a1)), (2, (0, a2)), (3, (0, a3))]) (st1 := [(0, a3), (0, v1), (0, if (if 0 ≤ (jsub (jand a1 7) (jand a2 7)) then (jsub (jand a1 7) (jand a2 7)) else jsub 0 (jsub (jand a1 7) (jand a2 7))) < (if 0 ≤ (jsub (jshr a2 3) (jshr a1 3)) then (jsub (jshr a2 3) (jshr a1 3)) else jsub 0 (jsub (jshr a2 3) (jshr a1 3))) then (if 0 ≤ (jsub (jshr a2 3) (jshr a1 3)) then (jsub (jshr a2 3) (jshr a1 3)) else jsub 0 (jsub (jshr a2 3) (jshr a1 3))) else (if 0 ≤ (jsub (jand a1 7) (jand a2 7)) then (jsub (jand a1 7) (jand a2 7)) else jsub 0 (jsub (jand a1 7) (jand a2 7))))]) (h1 := h) rfl ?_
      obtain ⟨v2, hq, hv⟩ := Option.bind_eq_some_iff.mp hv
      refine jT.cSN (M1 := M_X_reachOf) [(0, v1), (0, a3)] [(0, if (if 0 ≤ (jsub (jand a1 7) (jand a2 7)) then (jsub (jand a1 7) (jand a2 7)) else jsub 0 (jsub (jand a1 7) (jand a2 7))) < (if 0 ≤ (jsub (jshr a2 3) (jshr a1 3)) then (jsub (jshr a2 3) (jshr a1 3)) else jsub 0 (jsub (jshr a2 3) (jshr a1 3))) then (if 0 ≤ (jsub (jshr a2 3) (jshr a1 3)) then (jsub (jshr a2 3) (jshr a1 3)) else jsub 0 (jsub (jshr a2 3) (jshr a1 3))) else (if 0 ≤ (jsub (jand a1 7) (jand a2 7)) then (jsub (jand a1 7) (jand a2 7)) else jsub 0 (jsub (jand a1 7) (jand a2 7))))] (st_Bd_attacksAgainst) rfl rfl ok_X_reachOf rfl (Nat.le_of_ble_eq_true rfl) (Nat.le_of_ble_eq_true rfl) rfl (Nat.le_of_ble_eq_true rfl) (C_X_reachOf hq) ?_
      show jG E _ 85 [(6, (0, jsub (jshr a2 3) (jshr a1 3))), (5, (0, if 0 ≤ (jsub (jand a1 7) (jand a2 7)) then (jsub (jand a1 7) (jand a2 7)) else jsub 0 (jsub (jand a1 7) (jand a2 7)))), (4, (0, v1)), (0, (2, ((20 : Nat) : Int))), (1, (0, a1)), (2, (0, a2)), (3, (0, a3))] [(0, v2), (0, if (if 0 ≤ (jsub (jand a1 7) (jand a2 7)) then (jsub (jand a1 7) (jand a2 7)) else jsub 0 (jsub (jand a1 7) (jand a2 7))) < (if 0 ≤ (jsub (jshr a2 3) (jshr a1 3)) then (jsub (jshr a2 3) (jshr a1 3)) else jsub 0 (jsub (jshr a2 3) (jshr a1 3))) then (if 0 ≤ (jsub (jshr a2 3) (jshr a1 3)) then (jsub (jshr a2 3) (jshr a1 3)) else jsub 0 (jsub (jshr a2 3) (jshr a1 3))) else (if 0 ≤ (jsub (jand a1 7) (jand a2 7)) then (jsub (jand a1 7) (jand a2 7)) else jsub 0 (jsub (jand a1 7) (jand a2 7))))] h _ _
      refine jT.if2 (st_Bd_attacksAgainst) rfl (tgt := 92) (by decide) (fun hc => ?_) (fun hc => ?_)
      · have hc : v2 < (if (if 0 ≤ (jsub (jand a1 7) (jand a2 7)) then (jsub (jand a1 7) (jand a2 7)) else jsub 0 (jsub (jand a1 7) (jand a2 7))) < (if 0 ≤ (jsub (jshr a2 3) (jshr a1 3)) then (jsub (jshr a2 3) (jshr a1 3)) else jsub 0 (jsub (jshr a2 3) (jshr a1 3))) then (if 0 ≤ (jsub (jshr a2 3) (jshr a1 3)) then (jsub (jshr a2 3) (jshr a1 3)) else jsub 0 (jsub (jshr a2 3) (jshr a1 3))) else (if 0 ≤ (jsub (jand a1 7) (jand a2 7)) then (jsub (jand a1 7) (jand a2 7)) else jsub 0 (jsub (jand a1 7) (jand a2 7)))) := hc
        try rw [if_pos hc] at hv
        refine jG.blk (st_Bd_attacksAgainst) 1 (pc1 := 93) (L1 := [(6, (0, jsub (jshr a2 3) (jshr a1 3))), (5, (0, if 0 ≤ (jsub (jand a1 7) (jand a2 7)) then (jsub (jand a1 7) (jand a2 7)) else jsub 0 (jsub (jand a1 7) (jand a2 7)))), (4, (0, v1)), (0, (2, ((20 : Nat) : Int))), (1, (0, a1)), (2, (0, a2)), (3, (0, a3))]) (st1 := [(0, 0)]) (h1 := h) rfl ?_
        cases hv
        exact jT.iret (st_Bd_attacksAgainst) rfl (Or.inl rfl)
      · have hc : ¬ (v2 < (if (if 0 ≤ (jsub (jand a1 7) (jand a2 7)) then (jsub (jand a1 7) (jand a2 7)) else jsub 0 (jsub (jand a1 7) (jand a2 7))) < (if 0 ≤ (jsub (jshr a2 3) (jshr a1 3)) then (jsub (jshr a2 3) (jshr a1 3)) else jsub 0 (jsub (jshr a2 3) (jshr a1 3))) then (if 0 ≤ (jsub (jshr a2 3) (jshr a1 3)) then (jsub (jshr a2 3) (jshr a1 3)) else jsub 0 (jsub (jshr a2 3) (jshr a1 3))) else (if 0 ≤ (jsub (jand a1 7) (jand a2 7)) then (jsub (jand a1 7) (jand a2 7)) else jsub 0 (jsub (jand a1 7) (jand a2 7))))) := hc
        try rw [if_neg hc] at hv
        refine jG.blk (st_Bd_attacksAgainst) 1 (pc1 := 89) (L1 := [(6, (0, jsub (jshr a2 3) (jshr a1 3))), (5, (0, if 0 ≤ (jsub (jand a1 7) (jand a2 7)) then (jsub (jand a1 7) (jand a2 7)) else jsub 0 (jsub (jand a1 7) (jand a2 7)))), (4, (0, v1)), (0, (2, ((20 : Nat) : Int))), (1, (0, a1)), (2, (0, a2)), (3, (0, a3))]) (st1 := [(0, 1)]) (h1 := h) rfl ?_
        refine jT.goto (st_Bd_attacksAgainst) rfl (tgt := 93) (by decide) ?_
        cases hv
        exact jT.iret (st_Bd_attacksAgainst) rfl (Or.inr rfl)
    · have hc : v1 = 1 := Decidable.not_not.mp hc
      try rw [if_pos hc] at hv
      refine jG.blk (st_Bd_attacksAgainst) 2 (pc1 := 43) (L1 := [(6, (0, jsub (jshr a2 3) (jshr a1 3))), (5, (0, if 0 ≤ (jsub (jand a1 7) (jand a2 7)) then (jsub (jand a1 7) (jand a2 7)) else jsub 0 (jsub (jand a1 7) (jand a2 7)))), (4, (0, v1)), (0, (2, ((20 : Nat) : Int))), (1, (0, a1)), (2, (0, a2)), (3, (0, a3))]) (st1 := [(0, 1), (0, if 0 ≤ (jsub (jand a1 7) (jand a2 7)) then (jsub (jand a1 7) (jand a2 7)) else jsub 0 (jsub (jand a1 7) (jand a2 7)))]) (h1 := h) rfl ?_
      refine jT.if2 (st_Bd_attacksAgainst) rfl (tgt := 67) (by decide) (fun hc => ?_) (fun hc => ?_)
      · have hc : ¬ ((if 0 ≤ (jsub (jand a1 7) (jand a2 7)) then (jsub (jand a1 7) (jand a2 7)) else jsub 0 (jsub (jand a1 7) (jand a2 7))) = 1) := hc
        try rw [if_neg hc] at hv
        refine jG.blk (st_Bd_attacksAgainst) 1 (pc1 := 68) (L1 := [(6, (0, jsub (jshr a2 3) (jshr a1 3))), (5, (0, if 0 ≤ (jsub (jand a1 7) (jand a2 7)) then (jsub (jand a1 7) (jand a2 7)) else jsub 0 (jsub (jand a1 7) (jand a2 7)))), (4, (0, v1)), (0, (2, ((20 : Nat) : Int))), (1, (0, a1)), (2, (0, a2)), (3, (0, a3))]) (st1 := [(0, 0)]) (h1 := h) rfl ?_
        cases hv
        exact jT.iret (st_Bd_attacksAgainst) rfl (Or.inl rfl)
      · have hc : (if 0 ≤ (jsub (jand a1 7) (jand a2 7)) then (jsub (jand a1 7) (jand a2 7)) else jsub 0 (jsub (jand a1 7) (jand a2 7))) = 1 := Decidable.not_not.mp hc
        try rw [if_pos hc] at hv
        refine jG.blk (st_Bd_attacksAgainst) 4 (pc1 := 53) (L1 := [(6, (0, jsub (jshr a2 3) (jshr a1 3))), (5, (0, if 0 ≤ (jsub (jand a1 7) (jand a2 7)) then (jsub (jand a1 7) (jand a2 7)) else jsub 0 (jsub (jand a1 7) (jand a2 7)))), (4, (0, v1)), (0, (2, ((20 : Nat) : Int))), (1, (0, a1)), (2, (0, a2)), (3, (0, a3))]) (st1 := [(0, a1), (2, ((20 + 1 : Nat) : Int)), (0, jsub (jshr a2 3) (jshr a1 3))]) (h1 := h) rfl ?_
        obtain ⟨hg, hv⟩ := jgd_some hv
        refine jT.iald (a := 20 + 1) (st_Bd_attacksAgainst) rfl rfl (by decide) hg.1 hg.2 ?_
        obtain ⟨v3, hq, hv⟩ := Option.bind_eq_some_iff.mp hv
        refine jT.cSN (M1 := M_X_sideOf) [(0, h (20 + 1) a1.toNat)] [(0, jsub (jshr a2 3) (jshr a1 3))] (st_Bd_attacksAgainst) rfl rfl ok_X_sideOf rfl (Nat.le_of_ble_eq_true rfl) (Nat.le_of_ble_eq_true rfl) rfl (Nat.le_of_ble_eq_true rfl) (C_X_sideOf hq) ?_
        show jG E _ 57 [(6, (0, jsub (jshr a2 3) (jshr a1 3))), (5, (0, if 0 ≤ (jsub (jand a1 7) (jand a2 7)) then (jsub (jand a1 7) (jand a2 7)) else jsub 0 (jsub (jand a1 7) (jand a2 7)))), (4, (0, v1)), (0, (2, ((20 : Nat) : Int))), (1, (0, a1)), (2, (0, a2)), (3, (0, a3))] [(0, v3), (0, jsub (jshr a2 3) (jshr a1 3))] h _ _
        obtain ⟨v4, hq, hv⟩ := Option.bind_eq_some_iff.mp hv
        refine jT.cSN (M1 := M_X_forwardOf) [(0, v3)] [(0, jsub (jshr a2 3) (jshr a1 3))] (st_Bd_attacksAgainst) rfl rfl ok_X_forwardOf rfl (Nat.le_of_ble_eq_true rfl) (Nat.le_of_ble_eq_true rfl) rfl (Nat.le_of_ble_eq_true rfl) (C_X_forwardOf hq) ?_
        show jG E _ 60 [(6, (0, jsub (jshr a2 3) (jshr a1 3))), (5, (0, if 0 ≤ (jsub (jand a1 7) (jand a2 7)) then (jsub (jand a1 7) (jand a2 7)) else jsub 0 (jsub (jand a1 7) (jand a2 7)))), (4, (0, v1)), (0, (2, ((20 : Nat) : Int))), (1, (0, a1)), (2, (0, a2)), (3, (0, a3))] [(0, v4), (0, jsub (jshr a2 3) (jshr a1 3))] h _ _
        refine jT.if2 (st_Bd_attacksAgainst) rfl (tgt := 67) (by decide) (fun hc => ?_) (fun hc => ?_)
        · have hc : ¬ (jsub (jshr a2 3) (jshr a1 3) = v4) := hc
          try rw [if_neg hc] at hv
          refine jG.blk (st_Bd_attacksAgainst) 1 (pc1 := 68) (L1 := [(6, (0, jsub (jshr a2 3) (jshr a1 3))), (5, (0, if 0 ≤ (jsub (jand a1 7) (jand a2 7)) then (jsub (jand a1 7) (jand a2 7)) else jsub 0 (jsub (jand a1 7) (jand a2 7)))), (4, (0, v1)), (0, (2, ((20 : Nat) : Int))), (1, (0, a1)), (2, (0, a2)), (3, (0, a3))]) (st1 := [(0, 0)]) (h1 := h) rfl ?_
          cases hv
          exact jT.iret (st_Bd_attacksAgainst) rfl (Or.inl rfl)
        · have hc : jsub (jshr a2 3) (jshr a1 3) = v4 := Decidable.not_not.mp hc
          try rw [if_pos hc] at hv
          refine jG.blk (st_Bd_attacksAgainst) 1 (pc1 := 64) (L1 := [(6, (0, jsub (jshr a2 3) (jshr a1 3))), (5, (0, if 0 ≤ (jsub (jand a1 7) (jand a2 7)) then (jsub (jand a1 7) (jand a2 7)) else jsub 0 (jsub (jand a1 7) (jand a2 7)))), (4, (0, v1)), (0, (2, ((20 : Nat) : Int))), (1, (0, a1)), (2, (0, a2)), (3, (0, a3))]) (st1 := [(0, 1)]) (h1 := h) rfl ?_
          refine jT.goto (st_Bd_attacksAgainst) rfl (tgt := 68) (by decide) ?_
          cases hv
          exact jT.iret (st_Bd_attacksAgainst) rfl (Or.inr rfl)
def f_Bd_attacksOn_j60_5 (r : Nat) (rc : Int → Int → Option (Int)) (k : Int → Int → Option (Int)) (h : jH) (x3 : Int) (x4 : Int) (l6 : Int) (l7 : Int) : Option (Int) := jgd (0 ≤ l7 ∧ l7 < (((jxc.getD 3 []).length : Nat) : Int)) (jgd (0 ≤ l7 ∧ l7 < (((jxc.getD 4 []).length : Nat) : Int)) ((f_X_shifted h x3 ((jxc.getD 3 []).getD l7.toNat 0) ((jxc.getD 4 []).getD l7.toNat 0)).bind fun v8 => if v8 = (-1) then rc l6 (jadd l7 1) else jgd (0 ≤ v8 ∧ v8 < 64) ((f_X_pieceOf h 2 x4).bind fun v9 => rc (if h (r + 1) v8.toNat = v9 then jlor l6 (jlshl 1 v8) else l6) (jadd l7 1))))
def f_Bd_attacksOn_lp5 (r : Nat) (h : jH) (x3 : Int) (x4 : Int) (k : Int → Int → Option (Int)) : Nat → Int → Int → Option (Int)
  | 0, _, _ => none
  | n + 1, l1, l2 => if 8 ≤ l2 then k l1 l2 else (f_Bd_firstAlong r h x3 l2).bind fun v5 => if v5 = (-1) then f_Bd_attacksOn_j60_5 r (f_Bd_attacksOn_lp5 r h x3 x4 k n) k h x3 x4 l1 l2 else jgd (0 ≤ v5 ∧ v5 < 64) ((f_X_sideOf h (h (r + 1) v5.toNat)).bind fun v10 => if v10 = x4 then (f_Bd_attacksAgainst r h v5 x3 l2).bind fun v11 => f_Bd_attacksOn_j60_5 r (f_Bd_attacksOn_lp5 r h x3 x4 k n) k h x3 x4 (if v11 = 0 then l1 else jlor l1 (jlshl 1 v5)) l2 else f_Bd_attacksOn_j60_5 r (f_Bd_attacksOn_lp5 r h x3 x4 k n) k h x3 x4 l1 l2)
def f_Bd_attacksOn (r : Nat) (h : jH) (a1 : Int) (a2 : Int) : Option (Int) := f_Bd_attacksOn_lp5 r h a1 a2 (fun l12 l13 => some l12) 1000 0 0
set_option maxRecDepth 100000 in
set_option maxHeartbeats 4000000 in
theorem f_Bd_attacksOn_j60_5_ok (E : jE) (r : Nat) (hr : r = 2 ∨ r = 20) {rc : Int → Int → Option (Int)} {k : Int → Int → Option (Int)} {h : jH} {x3 : Int} {x4 : Int} (hrc : ∀ (l1 : Int) (l2 : Int) (res : Int), rc l1 l2 = some res → jG E M_Bd_attacksOn 5 [(0, (2, ((r : Nat) : Int))), (1, (0, x3)), (2, (0, x4)), (3, (1, l1)), (5, (0, l2))] [] h (some (1, res)) h) (hk : ∀ (l1 : Int) (l2 : Int) (res : Int), k l1 l2 = some res → jG E M_Bd_attacksOn 112 [(3, (1, l1))] [] h (some (1, res)) h) {l6 : Int} {l7 : Int} {res : Int} (hv : f_Bd_attacksOn_j60_5 r rc k h x3 x4 l6 l7 = some res) : jG E M_Bd_attacksOn 60 [(0, (2, ((r : Nat) : Int))), (1, (0, x3)), (2, (0, x4)), (3, (1, l6)), (5, (0, l7))] [] h (some (1, res)) h := by
  rcases hr with rfl | rfl
  · unfold f_Bd_attacksOn_j60_5 at hv
    refine jG.blk (st_Bd_attacksOn) 3 (pc1 := 66) (L1 := [(0, (2, ((2 : Nat) : Int))), (1, (0, x3)), (2, (0, x4)), (3, (1, l6)), (5, (0, l7))]) (st1 := [(0, l7), (3, ((3 : Nat) : Int)), (0, x3)]) (h1 := h) rfl ?_
    obtain ⟨hg, hv⟩ := jgd_some hv
    refine jT.xald (x := 3) (st_Bd_attacksOn) rfl (by decide) rfl (jxl_small (by decide) (by decide)) hg.1 hg.2 (jxc_ok _ _) ?_
    refine jG.blk (st_Bd_attacksOn) 2 (pc1 := 72) (L1 := [(0, (2, ((2 : Nat) : Int))), (1, (0, x3)), (2, (0, x4)), (3, (1, l6)), (5, (0, l7))]) (st1 := [(0, l7), (3, ((4 : Nat) : Int)), (0, (jxc.getD 3 []).getD l7.toNat 0), (0, x3)]) (h1 := h) rfl ?_
    obtain ⟨hg, hv⟩ := jgd_some hv
    refine jT.xald (x := 4) (st_Bd_attacksOn) rfl (by decide) rfl (jxl_small (by decide) (by decide)) hg.1 hg.2 (jxc_ok _ _) ?_
    obtain ⟨v8, hq, hv⟩ := Option.bind_eq_some_iff.mp hv
    refine jT.cSN (M1 := M_X_shifted) [(0, x3), (0, (jxc.getD 3 []).getD l7.toNat 0), (0, (jxc.getD 4 []).getD l7.toNat 0)] [] (st_Bd_attacksOn) rfl rfl ok_X_shifted rfl (Nat.le_of_ble_eq_true rfl) (Nat.le_of_ble_eq_true rfl) rfl (Nat.le_of_ble_eq_true rfl) (C_X_shifted hq) ?_
    show jG E _ 76 [(0, (2, ((2 : Nat) : Int))), (1, (0, x3)), (2, (0, x4)), (3, (1, l6)), (5, (0, l7))] [(0, v8)] h _ _
    refine jG.blk (st_Bd_attacksOn) 3 (pc1 := 81) (L1 := [(7, (0, v8)), (0, (2, ((2 : Nat) : Int))), (1, (0, x3)), (2, (0, x4)), (3, (1, l6)), (5, (0, l7))]) (st1 := [(0, (-1)), (0, v8)]) (h1 := h) rfl ?_
    refine jT.if2 (st_Bd_attacksOn) rfl (tgt := 106) (by decide) (fun hc => ?_) (fun hc => ?_)
    · have hc : v8 = (-1) := hc
      try rw [if_pos hc] at hv
      refine jG.blk (st_Bd_attacksOn) 1 (pc1 := 109) (L1 := [(5, (0, jadd l7 1)), (7, (0, v8)), (0, (2, ((2 : Nat) : Int))), (1, (0, x3)), (2, (0, x4)), (3, (1, l6))]) (st1 := []) (h1 := h) rfl ?_
      refine jT.goto (st_Bd_attacksOn) rfl (tgt := 5) (by decide) ?_
      refine jG.subp [2, 3, 4, 5, 0] (L1 := [(0, (2, ((2 : Nat) : Int))), (1, (0, x3)), (2, (0, x4)), (3, (1, l6)), (5, (0, jadd l7 1))]) rfl ?_
      exact hrc _ _ _ hv
    · have hc : ¬ (v8 = (-1)) := hc
      try rw [if_neg hc] at hv
      refine jG.blk (st_Bd_attacksOn) 3 (pc1 := 90) (L1 := [(7, (0, v8)), (0, (2, ((2 : Nat) : Int))), (1, (0, x3)), (2, (0, x4)), (3, (1, l6)), (5, (0, l7))]) (st1 := [(0, v8), (2, ((2 + 1 : Nat) : Int))]) (h1 := h) rfl ?_
      obtain ⟨hg, hv⟩ := jgd_some hv
      refine jT.iald (a := 2 + 1) (st_Bd_attacksOn) rfl rfl (by decide) hg.1 hg.2 ?_
      refine jG.blk (st_Bd_attacksOn) 2 (pc1 := 93) (L1 := [(7, (0, v8)), (0, (2, ((2 : Nat) : Int))), (1, (0, x3)), (2, (0, x4)), (3, (1, l6)), (5, (0, l7))]) (st1 := [(0, x4), (0, 2), (0, h (2 + 1) v8.toNat)]) (h1 := h) rfl ?_
      obtain ⟨v9, hq, hv⟩ := Option.bind_eq_some_iff.mp hv
      refine jT.cSN (M1 := M_X_pieceOf) [(0, 2), (0, x4)] [(0, h (2 + 1) v8.toNat)] (st_Bd_attacksOn) rfl rfl ok_X_pieceOf rfl (Nat.le_of_ble_eq_true rfl) (Nat.le_of_ble_eq_true rfl) rfl (Nat.le_of_ble_eq_true rfl) (C_X_pieceOf hq) ?_
      show jG E _ 96 [(7, (0, v8)), (0, (2, ((2 : Nat) : Int))), (1, (0, x3)), (2, (0, x4)), (3, (1, l6)), (5, (0, l7))] [(0, v9), (0, h (2 + 1) v8.toNat)] h _ _
      refine jT.if2 (st_Bd_attacksOn) rfl (tgt := 106) (by decide) (fun hc => ?_) (fun hc => ?_)
      · have hc : ¬ (h (2 + 1) v8.toNat = v9) := hc
        try rw [if_neg hc] at hv
        refine jG.blk (st_Bd_attacksOn) 1 (pc1 := 109) (L1 := [(5, (0, jadd l7 1)), (7, (0, v8)), (0, (2, ((2 : Nat) : Int))), (1, (0, x3)), (2, (0, x4)), (3, (1, l6))]) (st1 := []) (h1 := h) rfl ?_
        refine jT.goto (st_Bd_attacksOn) rfl (tgt := 5) (by decide) ?_
        refine jG.subp [2, 3, 4, 5, 0] (L1 := [(0, (2, ((2 : Nat) : Int))), (1, (0, x3)), (2, (0, x4)), (3, (1, l6)), (5, (0, jadd l7 1))]) rfl ?_
        exact hrc _ _ _ hv
      · have hc : h (2 + 1) v8.toNat = v9 := Decidable.not_not.mp hc
        try rw [if_pos hc] at hv
        refine jG.blk (st_Bd_attacksOn) 7 (pc1 := 109) (L1 := [(5, (0, jadd l7 1)), (3, (1, jlor l6 (jlshl 1 v8))), (7, (0, v8)), (0, (2, ((2 : Nat) : Int))), (1, (0, x3)), (2, (0, x4))]) (st1 := []) (h1 := h) rfl ?_
        refine jT.goto (st_Bd_attacksOn) rfl (tgt := 5) (by decide) ?_
        refine jG.subp [3, 4, 5, 1, 0] (L1 := [(0, (2, ((2 : Nat) : Int))), (1, (0, x3)), (2, (0, x4)), (3, (1, jlor l6 (jlshl 1 v8))), (5, (0, jadd l7 1))]) rfl ?_
        exact hrc _ _ _ hv
  · unfold f_Bd_attacksOn_j60_5 at hv
    refine jG.blk (st_Bd_attacksOn) 3 (pc1 := 66) (L1 := [(0, (2, ((20 : Nat) : Int))), (1, (0, x3)), (2, (0, x4)), (3, (1, l6)), (5, (0, l7))]) (st1 := [(0, l7), (3, ((3 : Nat) : Int)), (0, x3)]) (h1 := h) rfl ?_
    obtain ⟨hg, hv⟩ := jgd_some hv
    refine jT.xald (x := 3) (st_Bd_attacksOn) rfl (by decide) rfl (jxl_small (by decide) (by decide)) hg.1 hg.2 (jxc_ok _ _) ?_
    refine jG.blk (st_Bd_attacksOn) 2 (pc1 := 72) (L1 := [(0, (2, ((20 : Nat) : Int))), (1, (0, x3)), (2, (0, x4)), (3, (1, l6)), (5, (0, l7))]) (st1 := [(0, l7), (3, ((4 : Nat) : Int)), (0, (jxc.getD 3 []).getD l7.toNat 0), (0, x3)]) (h1 := h) rfl ?_
    obtain ⟨hg, hv⟩ := jgd_some hv
    refine jT.xald (x := 4) (st_Bd_attacksOn) rfl (by decide) rfl (jxl_small (by decide) (by decide)) hg.1 hg.2 (jxc_ok _ _) ?_
    obtain ⟨v8, hq, hv⟩ := Option.bind_eq_some_iff.mp hv
    refine jT.cSN (M1 := M_X_shifted) [(0, x3), (0, (jxc.getD 3 []).getD l7.toNat 0), (0, (jxc.getD 4 []).getD l7.toNat 0)] [] (st_Bd_attacksOn) rfl rfl ok_X_shifted rfl (Nat.le_of_ble_eq_true rfl) (Nat.le_of_ble_eq_true rfl) rfl (Nat.le_of_ble_eq_true rfl) (C_X_shifted hq) ?_
    show jG E _ 76 [(0, (2, ((20 : Nat) : Int))), (1, (0, x3)), (2, (0, x4)), (3, (1, l6)), (5, (0, l7))] [(0, v8)] h _ _
    refine jG.blk (st_Bd_attacksOn) 3 (pc1 := 81) (L1 := [(7, (0, v8)), (0, (2, ((20 : Nat) : Int))), (1, (0, x3)), (2, (0, x4)), (3, (1, l6)), (5, (0, l7))]) (st1 := [(0, (-1)), (0, v8)]) (h1 := h) rfl ?_
    refine jT.if2 (st_Bd_attacksOn) rfl (tgt := 106) (by decide) (fun hc => ?_) (fun hc => ?_)
    · have hc : v8 = (-1) := hc
      try rw [if_pos hc] at hv
      refine jG.blk (st_Bd_attacksOn) 1 (pc1 := 109) (L1 := [(5, (0, jadd l7 1)), (7, (0, v8)), (0, (2, ((20 : Nat) : Int))), (1, (0, x3)), (2, (0, x4)), (3, (1, l6))]) (st1 := []) (h1 := h) rfl ?_
      refine jT.goto (st_Bd_attacksOn) rfl (tgt := 5) (by decide) ?_
      refine jG.subp [2, 3, 4, 5, 0] (L1 := [(0, (2, ((20 : Nat) : Int))), (1, (0, x3)), (2, (0, x4)), (3, (1, l6)), (5, (0, jadd l7 1))]) rfl ?_
      exact hrc _ _ _ hv
    · have hc : ¬ (v8 = (-1)) := hc
      try rw [if_neg hc] at hv
      refine jG.blk (st_Bd_attacksOn) 3 (pc1 := 90) (L1 := [(7, (0, v8)), (0, (2, ((20 : Nat) : Int))), (1, (0, x3)), (2, (0, x4)), (3, (1, l6)), (5, (0, l7))]) (st1 := [(0, v8), (2, ((20 + 1 : Nat) : Int))]) (h1 := h) rfl ?_
      obtain ⟨hg, hv⟩ := jgd_some hv
      refine jT.iald (a := 20 + 1) (st_Bd_attacksOn) rfl rfl (by decide) hg.1 hg.2 ?_
      refine jG.blk (st_Bd_attacksOn) 2 (pc1 := 93) (L1 := [(7, (0, v8)), (0, (2, ((20 : Nat) : Int))), (1, (0, x3)), (2, (0, x4)), (3, (1, l6)), (5, (0, l7))]) (st1 := [(0, x4), (0, 2), (0, h (20 + 1) v8.toNat)]) (h1 := h) rfl ?_
      obtain ⟨v9, hq, hv⟩ := Option.bind_eq_some_iff.mp hv
      refine jT.cSN (M1 := M_X_pieceOf) [(0, 2), (0, x4)] [(0, h (20 + 1) v8.toNat)] (st_Bd_attacksOn) rfl rfl ok_X_pieceOf rfl (Nat.le_of_ble_eq_true rfl) (Nat.le_of_ble_eq_true rfl) rfl (Nat.le_of_ble_eq_true rfl) (C_X_pieceOf hq) ?_
      show jG E _ 96 [(7, (0, v8)), (0, (2, ((20 : Nat) : Int))), (1, (0, x3)), (2, (0, x4)), (3, (1, l6)), (5, (0, l7))] [(0, v9), (0, h (20 + 1) v8.toNat)] h _ _
      refine jT.if2 (st_Bd_attacksOn) rfl (tgt := 106) (by decide) (fun hc => ?_) (fun hc => ?_)
      · have hc : ¬ (h (20 + 1) v8.toNat = v9) := hc
        try rw [if_neg hc] at hv
        refine jG.blk (st_Bd_attacksOn) 1 (pc1 := 109) (L1 := [(5, (0, jadd l7 1)), (7, (0, v8)), (0, (2, ((20 : Nat) : Int))), (1, (0, x3)), (2, (0, x4)), (3, (1, l6))]) (st1 := []) (h1 := h) rfl ?_
        refine jT.goto (st_Bd_attacksOn) rfl (tgt := 5) (by decide) ?_
        refine jG.subp [2, 3, 4, 5, 0] (L1 := [(0, (2, ((20 : Nat) : Int))), (1, (0, x3)), (2, (0, x4)), (3, (1, l6)), (5, (0, jadd l7 1))]) rfl ?_
        exact hrc _ _ _ hv
      · have hc : h (20 + 1) v8.toNat = v9 := Decidable.not_not.mp hc
        try rw [if_pos hc] at hv
        refine jG.blk (st_Bd_attacksOn) 7 (pc1 := 109) (L1 := [(5, (0, jadd l7 1)), (3, (1, jlor l6 (jlshl 1 v8))), (7, (0, v8)), (0, (2, ((20 : Nat) : Int))), (1, (0, x3)), (2, (0, x4))]) (st1 := []) (h1 := h) rfl ?_
        refine jT.goto (st_Bd_attacksOn) rfl (tgt := 5) (by decide) ?_
        refine jG.subp [3, 4, 5, 1, 0] (L1 := [(0, (2, ((20 : Nat) : Int))), (1, (0, x3)), (2, (0, x4)), (3, (1, jlor l6 (jlshl 1 v8))), (5, (0, jadd l7 1))]) rfl ?_
        exact hrc _ _ _ hv
set_option maxRecDepth 100000 in
set_option maxHeartbeats 4000000 in
theorem f_Bd_attacksOn_lp5_ok (E : jE) (r : Nat) (hr : r = 2 ∨ r = 20) {h : jH} {x3 : Int} {x4 : Int} {k : Int → Int → Option (Int)} (hk : ∀ (l1 : Int) (l2 : Int) (res : Int), k l1 l2 = some res → jG E M_Bd_attacksOn 112 [(3, (1, l1))] [] h (some (1, res)) h) : ∀ (n : Nat) (l1 : Int) (l2 : Int) (res : Int), f_Bd_attacksOn_lp5 r h x3 x4 k n l1 l2 = some res → jG E M_Bd_attacksOn 5 [(0, (2, ((r : Nat) : Int))), (1, (0, x3)), (2, (0, x4)), (3, (1, l1)), (5, (0, l2))] [] h (some (1, res)) h := by
  rcases hr with rfl | rfl
  · intro n
    induction n with
    | zero => intro l1 l2 res hv; cases hv
    | succ n ih =>
      intro l1 l2 res hv
      rw [f_Bd_attacksOn_lp5] at hv
      refine jG.blk (st_Bd_attacksOn) 2 (pc1 := 9) (L1 := [(0, (2, ((2 : Nat) : Int))), (1, (0, x3)), (2, (0, x4)), (3, (1, l1)), (5, (0, l2))]) (st1 := [(0, 8), (0, l2)]) (h1 := h) rfl ?_
      refine jT.if2 (st_Bd_attacksOn) rfl (tgt := 112) (by decide) (fun hc => ?_) (fun hc => ?_)
      · have hc : 8 ≤ l2 := hc
        try rw [if_pos hc] at hv
        refine jG.subp [3] (L1 := [(3, (1, l1))]) rfl ?_
        exact hk _ _ _ hv
      · have hc : ¬ (8 ≤ l2) := hc
        try rw [if_neg hc] at hv
        refine jG.blk (st_Bd_attacksOn) 3 (pc1 := 16) (L1 := [(0, (2, ((2 : Nat) : Int))), (1, (0, x3)), (2, (0, x4)), (3, (1, l1)), (5, (0, l2))]) (st1 := [(0, l2), (0, x3), (2, ((2 : Nat) : Int))]) (h1 := h) rfl ?_
        obtain ⟨v5, hq, hv⟩ := Option.bind_eq_some_iff.mp hv
        refine jT.cV (M1 := M_Bd_firstAlong) (2, ((2 : Nat) : Int)) [(0, x3), (0, l2)] [] (st_Bd_attacksOn) rfl rfl ok_Bd_firstAlong rfl (Or.inl ⟨rfl, _, _, _, rfl, rfl⟩) (Nat.le_of_ble_eq_true rfl) (Nat.le_of_ble_eq_true rfl) rfl (Nat.le_of_ble_eq_true rfl) (C_Bd_firstAlong (by decide) hq) ?_
        show jG E _ 19 [(0, (2, ((2 : Nat) : Int))), (1, (0, x3)), (2, (0, x4)), (3, (1, l1)), (5, (0, l2))] [(0, v5)] h _ _
        refine jG.blk (st_Bd_attacksOn) 3 (pc1 := 24) (L1 := [(6, (0, v5)), (0, (2, ((2 : Nat) : Int))), (1, (0, x3)), (2, (0, x4)), (3, (1, l1)), (5, (0, l2))]) (st1 := [(0, (-1)), (0, v5)]) (h1 := h) rfl ?_
        refine jT.if2 (st_Bd_attacksOn) rfl (tgt := 60) (by decide) (fun hc => ?_) (fun hc => ?_)
        · have hc : v5 = (-1) := hc
          try rw [if_pos hc] at hv
          refine jG.subp [1, 2, 3, 4, 5] (L1 := [(0, (2, ((2 : Nat) : Int))), (1, (0, x3)), (2, (0, x4)), (3, (1, l1)), (5, (0, l2))]) rfl ?_
          exact f_Bd_attacksOn_j60_5_ok E 2 (by decide) ih hk hv
        · have hc : ¬ (v5 = (-1)) := hc
          try rw [if_neg hc] at hv
          refine jG.blk (st_Bd_attacksOn) 3 (pc1 := 33) (L1 := [(6, (0, v5)), (0, (2, ((2 : Nat) : Int))), (1, (0, x3)), (2, (0, x4)), (3, (1, l1)), (5, (0, l2))]) (st1 := [(0, v5), (2, ((2 + 1 : Nat) : Int))]) (h1 := h) rfl ?_
          obtain ⟨hg, hv⟩ := jgd_some hv
          refine jT.iald (a := 2 + 1) (st_Bd_attacksOn) rfl rfl (by decide) hg.1 hg.2 ?_
          obtain ⟨v10, hq, hv⟩ := Option.bind_eq_some_iff.mp hv
          refine jT.cSN (M1 := M_X_sideOf) [(0, h (2 + 1) v5.toNat)] [] (st_Bd_attacksOn) rfl rfl ok_X_sideOf rfl (Nat.le_of_ble_eq_true rfl) (Nat.le_of_ble_eq_true rfl) rfl (Nat.le_of_ble_eq_true rfl) (C_X_sideOf hq) ?_
          show jG E _ 37 [(6, (0, v5)), (0, (2, ((2 : Nat) : Int))), (1, (0, x3)), (2, (0, x4)), (3, (1, l1)), (5, (0, l2))] [(0, v10)] h _ _
          refine jG.blk (st_Bd_attacksOn) 1 (pc1 := 38) (L1 := [(6, (0, v5)), (0, (2, ((2 : Nat) : Int))), (1, (0, x3)), (2, (0, x4)), (3, (1, l1)), (5, (0, l2))]) (st1 := [(0, x4), (0, v10)]) (h1 := h) rfl ?_
          refine jT.if2 (st_Bd_attacksOn) rfl (tgt := 60) (by decide) (fun hc => ?_) (fun hc => ?_)
          · have hc : ¬ (v10 = x4) := hc
            try rw [if_neg hc] at hv
            refine jG.subp [1, 2, 3, 4, 5] (L1 := [(0, (2, ((2 : Nat) : Int))), (1, (0, x3)), (2, (0, x4)), (3, (1, l1)), (5, (0, l2))]) rfl ?_
            exact f_Bd_attacksOn_j60_5_ok E 2 (by decide) ih hk hv
          · have hc : v10 = x4 := Decidable.not_not.mp hc
            try rw [if_pos hc] at hv
            refine jG.blk (st_Bd_attacksOn) 4 (pc1 := 47) (L1 := [(6, (0, v5)), (0, (2, ((2 : Nat) : Int))), (1, (0, x3)), (2, (0, x4)), (3, (1, l1)), (5, (0, l2))]) (st1 := [(0, l2), (0, x3), (0, v5), (2, ((2 : Nat) : Int))]) (h1 := h) rfl ?_
            obtain ⟨v11, hq, hv⟩ := Option.bind_eq_some_iff.mp hv
            refine jT.cV (M1 := M_Bd_attacksAgainst) (2, ((2 : Nat) : Int)) [(0, v5), (0, x3), (0, l2)] [] (st_Bd_attacksOn) rfl rfl ok_Bd_attacksAgainst rfl (Or.inl ⟨rfl, _, _, _, rfl, rfl⟩) (Nat.le_of_ble_eq_true rfl) (Nat.le_of_ble_eq_true rfl) rfl (Nat.le_of_ble_eq_true rfl) (C_Bd_attacksAgainst (by decide) hq) ?_
            show jG E _ 50 [(6, (0, v5)), (0, (2, ((2 : Nat) : Int))), (1, (0, x3)), (2, (0, x4)), (3, (1, l1)), (5, (0, l2))] [(0, v11)] h _ _
            refine jT.if1 (st_Bd_attacksOn) rfl (tgt := 60) (by decide) (fun hc => ?_) (fun hc => ?_)
            · have hc : v11 = 0 := hc
              try rw [if_pos hc] at hv
              refine jG.subp [1, 2, 3, 4, 5] (L1 := [(0, (2, ((2 : Nat) : Int))), (1, (0, x3)), (2, (0, x4)), (3, (1, l1)), (5, (0, l2))]) rfl ?_
              exact f_Bd_attacksOn_j60_5_ok E 2 (by decide) ih hk hv
            · have hc : ¬ (v11 = 0) := hc
              try rw [if_neg hc] at hv
              refine jG.blk (st_Bd_attacksOn) 6 (pc1 := 60) (L1 := [(3, (1, jlor l1 (jlshl 1 v5))), (6, (0, v5)), (0, (2, ((2 : Nat) : Int))), (1, (0, x3)), (2, (0, x4)), (5, (0, l2))]) (st1 := []) (h1 := h) rfl ?_
              refine jG.subp [2, 3, 4, 0, 5] (L1 := [(0, (2, ((2 : Nat) : Int))), (1, (0, x3)), (2, (0, x4)), (3, (1, jlor l1 (jlshl 1 v5))), (5, (0, l2))]) rfl ?_
              exact f_Bd_attacksOn_j60_5_ok E 2 (by decide) ih hk hv
  · intro n
    induction n with
    | zero => intro l1 l2 res hv; cases hv
    | succ n ih =>
      intro l1 l2 res hv
      rw [f_Bd_attacksOn_lp5] at hv
      refine jG.blk (st_Bd_attacksOn) 2 (pc1 := 9) (L1 := [(0, (2, ((20 : Nat) : Int))), (1, (0, x3)), (2, (0, x4)), (3, (1, l1)), (5, (0, l2))]) (st1 := [(0, 8), (0, l2)]) (h1 := h) rfl ?_
      refine jT.if2 (st_Bd_attacksOn) rfl (tgt := 112) (by decide) (fun hc => ?_) (fun hc => ?_)
      · have hc : 8 ≤ l2 := hc
        try rw [if_pos hc] at hv
        refine jG.subp [3] (L1 := [(3, (1, l1))]) rfl ?_
        exact hk _ _ _ hv
      · have hc : ¬ (8 ≤ l2) := hc
        try rw [if_neg hc] at hv
        refine jG.blk (st_Bd_attacksOn) 3 (pc1 := 16) (L1 := [(0, (2, ((20 : Nat) : Int))), (1, (0, x3)), (2, (0, x4)), (3, (1, l1)), (5, (0, l2))]) (st1 := [(0, l2), (0, x3), (2, ((20 : Nat) : Int))]) (h1 := h) rfl ?_
        obtain ⟨v5, hq, hv⟩ := Option.bind_eq_some_iff.mp hv
        refine jT.cV (M1 := M_Bd_firstAlong) (2, ((20 : Nat) : Int)) [(0, x3), (0, l2)] [] (st_Bd_attacksOn) rfl rfl ok_Bd_firstAlong rfl (Or.inl ⟨rfl, _, _, _, rfl, rfl⟩) (Nat.le_of_ble_eq_true rfl) (Nat.le_of_ble_eq_true rfl) rfl (Nat.le_of_ble_eq_true rfl) (C_Bd_firstAlong (by decide) hq) ?_
        show jG E _ 19 [(0, (2, ((20 : Nat) : Int))), (1, (0, x3)), (2, (0, x4)), (3, (1, l1)), (5, (0, l2))] [(0, v5)] h _ _
        refine jG.blk (st_Bd_attacksOn) 3 (pc1 := 24) (L1 := [(6, (0, v5)), (0, (2, ((20 : Nat) : Int))), (1, (0, x3)), (2, (0, x4)), (3, (1, l1)), (5, (0, l2))]) (st1 := [(0, (-1)), (0, v5)]) (h1 := h) rfl ?_
        refine jT.if2 (st_Bd_attacksOn) rfl (tgt := 60) (by decide) (fun hc => ?_) (fun hc => ?_)
        · have hc : v5 = (-1) := hc
          try rw [if_pos hc] at hv
          refine jG.subp [1, 2, 3, 4, 5] (L1 := [(0, (2, ((20 : Nat) : Int))), (1, (0, x3)), (2, (0, x4)), (3, (1, l1)), (5, (0, l2))]) rfl ?_
          exact f_Bd_attacksOn_j60_5_ok E 20 (by decide) ih hk hv
        · have hc : ¬ (v5 = (-1)) := hc
          try rw [if_neg hc] at hv
          refine jG.blk (st_Bd_attacksOn) 3 (pc1 := 33) (L1 := [(6, (0, v5)), (0, (2, ((20 : Nat) : Int))), (1, (0, x3)), (2, (0, x4)), (3, (1, l1)), (5, (0, l2))]) (st1 := [(0, v5), (2, ((20 + 1 : Nat) : Int))]) (h1 := h) rfl ?_
          obtain ⟨hg, hv⟩ := jgd_some hv
          refine jT.iald (a := 20 + 1) (st_Bd_attacksOn) rfl rfl (by decide) hg.1 hg.2 ?_
          obtain ⟨v10, hq, hv⟩ := Option.bind_eq_some_iff.mp hv
          refine jT.cSN (M1 := M_X_sideOf) [(0, h (20 + 1) v5.toNat)] [] (st_Bd_attacksOn) rfl rfl ok_X_sideOf rfl (Nat.le_of_ble_eq_true rfl) (Nat.le_of_ble_eq_true rfl) rfl (Nat.le_of_ble_eq_true rfl) (C_X_sideOf hq) ?_
          show jG E _ 37 [(6, (0, v5)), (0, (2, ((20 : Nat) : Int))), (1, (0, x3)), (2, (0, x4)), (3, (1, l1)), (5, (0, l2))] [(0, v10)] h _ _
          refine jG.blk (st_Bd_attacksOn) 1 (pc1 := 38) (L1 := [(6, (0, v5)), (0, (2, ((20 : Nat) : Int))), (1, (0, x3)), (2, (0, x4)), (3, (1, l1)), (5, (0, l2))]) (st1 := [(0, x4), (0, v10)]) (h1 := h) rfl ?_
          refine jT.if2 (st_Bd_attacksOn) rfl (tgt := 60) (by decide) (fun hc => ?_) (fun hc => ?_)
          · have hc : ¬ (v10 = x4) := hc
            try rw [if_neg hc] at hv
            refine jG.subp [1, 2, 3, 4, 5] (L1 := [(0, (2, ((20 : Nat) : Int))), (1, (0, x3)), (2, (0, x4)), (3, (1, l1)), (5, (0, l2))]) rfl ?_
            exact f_Bd_attacksOn_j60_5_ok E 20 (by decide) ih hk hv
          · have hc : v10 = x4 := Decidable.not_not.mp hc
            try rw [if_pos hc] at hv
            refine jG.blk (st_Bd_attacksOn) 4 (pc1 := 47) (L1 := [(6, (0, v5)), (0, (2, ((20 : Nat) : Int))), (1, (0, x3)), (2, (0, x4)), (3, (1, l1)), (5, (0, l2))]) (st1 := [(0, l2), (0, x3), (0, v5), (2, ((20 : Nat) : Int))]) (h1 := h) rfl ?_
            obtain ⟨v11, hq, hv⟩ := Option.bind_eq_some_iff.mp hv
            refine jT.cV (M1 := M_Bd_attacksAgainst) (2, ((20 : Nat) : Int)) [(0, v5), (0, x3), (0, l2)] [] (st_Bd_attacksOn) rfl rfl ok_Bd_attacksAgainst rfl (Or.inl ⟨rfl, _, _, _, rfl, rfl⟩) (Nat.le_of_ble_eq_true rfl) (Nat.le_of_ble_eq_true rfl) rfl (Nat.le_of_ble_eq_true rfl) (C_Bd_attacksAgainst (by decide) hq) ?_
            show jG E _ 50 [(6, (0, v5)), (0, (2, ((20 : Nat) : Int))), (1, (0, x3)), (2, (0, x4)), (3, (1, l1)), (5, (0, l2))] [(0, v11)] h _ _
            refine jT.if1 (st_Bd_attacksOn) rfl (tgt := 60) (by decide) (fun hc => ?_) (fun hc => ?_)
            · have hc : v11 = 0 := hc
              try rw [if_pos hc] at hv
              refine jG.subp [1, 2, 3, 4, 5] (L1 := [(0, (2, ((20 : Nat) : Int))), (1, (0, x3)), (2, (0, x4)), (3, (1, l1)), (5, (0, l2))]) rfl ?_
              exact f_Bd_attacksOn_j60_5_ok E 20 (by decide) ih hk hv
            · have hc : ¬ (v11 = 0) := hc
              try rw [if_neg hc] at hv
              refine jG.blk (st_Bd_attacksOn) 6 (pc1 := 60) (L1 := [(3, (1, jlor l1 (jlshl 1 v5))), (6, (0, v5)), (0, (2, ((20 : Nat) : Int))), (1, (0, x3)), (2, (0, x4)), (5, (0, l2))]) (st1 := []) (h1 := h) rfl ?_
              refine jG.subp [2, 3, 4, 0, 5] (L1 := [(0, (2, ((20 : Nat) : Int))), (1, (0, x3)), (2, (0, x4)), (3, (1, jlor l1 (jlshl 1 v5))), (5, (0, l2))]) rfl ?_
              exact f_Bd_attacksOn_j60_5_ok E 20 (by decide) ih hk hv
set_option maxRecDepth 100000 in
set_option maxHeartbeats 4000000 in
theorem C_Bd_attacksOn {E : jE} {r : Nat} (hr : r = 2 ∨ r = 20) {h : jH} {a1 : Int} {a2 : Int} {res : Int} (hv : f_Bd_attacksOn r h a1 a2 = some res) : jC E M_Bd_attacksOn [(2, ((r : Nat) : Int)), (0, a1), (0, a2)] h (some (1, res)) h := by
  rcases hr with rfl | rfl
  · refine jC.of ok_Bd_attacksOn.1 (by rw [jlg]; exact Nat.le_of_ble_eq_true rfl) ?_
    show jG E _ 0 [(0, (2, ((2 : Nat) : Int))), (1, (0, a1)), (2, (0, a2))] [] h _ _
    unfold f_Bd_attacksOn at hv
    refine jG.blk (st_Bd_attacksOn) 4 (pc1 := 5) (L1 := [(5, (0, 0)), (3, (1, 0)), (0, (2, ((2 : Nat) : Int))), (1, (0, a1)), (2, (0, a2))]) (st1 := []) (h1 := h) rfl ?_
    refine jG.subp [2, 3, 4, 1, 0] (L1 := [(0, (2, ((2 : Nat) : Int))), (1, (0, a1)), (2, (0, a2)), (3, (1, 0)), (5, (0, 0))]) rfl ?_
    refine f_Bd_attacksOn_lp5_ok E 2 (by decide) (fun l12 l13 res hv => ?_) 1000 _ _ _ hv
    · refine jG.blk (st_Bd_attacksOn) 1 (pc1 := 113) (L1 := [(3, (1, l12))]) (st1 := [(1, l12)]) (h1 := h) rfl ?_
      cases hv
      exact jT.lret (st_Bd_attacksOn) rfl trivial
  · refine jC.of ok_Bd_attacksOn.1 (by rw [jlg]; exact Nat.le_of_ble_eq_true rfl) ?_
    show jG E _ 0 [(0, (2, ((20 : Nat) : Int))), (1, (0, a1)), (2, (0, a2))] [] h _ _
    unfold f_Bd_attacksOn at hv
    refine jG.blk (st_Bd_attacksOn) 4 (pc1 := 5) (L1 := [(5, (0, 0)), (3, (1, 0)), (0, (2, ((20 : Nat) : Int))), (1, (0, a1)), (2, (0, a2))]) (st1 := []) (h1 := h) rfl ?_
    refine jG.subp [2, 3, 4, 1, 0] (L1 := [(0, (2, ((20 : Nat) : Int))), (1, (0, a1)), (2, (0, a2)), (3, (1, 0)), (5, (0, 0))]) rfl ?_
    refine f_Bd_attacksOn_lp5_ok E 20 (by decide) (fun l12 l13 res hv => ?_) 1000 _ _ _ hv
    · refine jG.blk (st_Bd_attacksOn) 1 (pc1 := 113) (L1 := [(3, (1, l12))]) (st1 := [(1, l12)]) (h1 := h) rfl ?_
      cases hv
      exact jT.lret (st_Bd_attacksOn) rfl trivial
def f_Bd_isKingAttacked (r : Nat) (h : jH) (a1 : Int) : Option (Int) := (f_Bd_kingSquare r h a1).bind fun v1 => if v1 = (-1) then some 0 else (f_X_otherSide h a1).bind fun v2 => (f_Bd_attacksOn r h v1 v2).bind fun v3 => some (if jcmp v3 0 = 0 then 0 else 1)
set_option maxRecDepth 100000 in
set_option maxHeartbeats 4000000 in
theorem C_Bd_isKingAttacked {E : jE} {r : Nat} (hr : r = 2 ∨ r = 20) {h : jH} {a1 : Int} {res : Int} (hv : f_Bd_isKingAttacked r h a1 = some res) : jC E M_Bd_isKingAttacked [(2, ((r : Nat) : Int)), (0, a1)] h (some (0, res)) h := by
  rcases hr with rfl | rfl
  · refine jC.of ok_Bd_isKingAttacked.1 (by rw [jlg]; exact Nat.le_of_ble_eq_true rfl) ?_
    show jG E _ 0 [(0, (2, ((2 : Nat) : Int))), (1, (0, a1))] [] h _ _
    unfold f_Bd_isKingAttacked at hv
    refine jG.blk (st_Bd_isKingAttacked) 2 (pc1 := 2) (L1 := [(0, (2, ((2 : Nat) : Int))), (1, (0, a1))]) (st1 := [(0, a1), (2, ((2 : Nat) : Int))]) (h1 := h) rfl ?_
    obtain ⟨v1, hq, hv⟩ := Option.bind_eq_some_iff.mp hv
    refine jT.cV (M1 := M_Bd_kingSquare) (2, ((2 : Nat) : Int)) [(0, a1)] [] (st_Bd_isKingAttacked) rfl rfl ok_Bd_kingSquare rfl (Or.inl ⟨rfl, _, _, _, rfl, rfl⟩) (Nat.le_of_ble_eq_true rfl) (Nat.le_of_ble_eq_true rfl) rfl (Nat.le_of_ble_eq_true rfl) (C_Bd_kingSquare (by decide) hq) ?_
    show jG E _ 5 [(0, (2, ((2 : Nat) : Int))), (1, (0, a1))] [(0, v1)] h _ _
    refine jG.blk (st_Bd_isKingAttacked) 3 (pc1 := 8) (L1 := [(2, (0, v1)), (0, (2, ((2 : Nat) : Int))), (1, (0, a1))]) (st1 := [(0, (-1)), (0, v1)]) (h1 := h) rfl ?_
    refine jT.if2 (st_Bd_isKingAttacked) rfl (tgt := 29) (by decide) (fun hc => ?_) (fun hc => ?_)
    · have hc : v1 = (-1) := hc
      try rw [if_pos hc] at hv
      refine jG.blk (st_Bd_isKingAttacked) 1 (pc1 := 30) (L1 := [(2, (0, v1)), (0, (2, ((2 : Nat) : Int))), (1, (0, a1))]) (st1 := [(0, 0)]) (h1 := h) rfl ?_
      cases hv
      exact jT.iret (st_Bd_isKingAttacked) rfl (Or.inl rfl)
    · have hc : ¬ (v1 = (-1)) := hc
      try rw [if_neg hc] at hv
      refine jG.blk (st_Bd_isKingAttacked) 3 (pc1 := 14) (L1 := [(2, (0, v1)), (0, (2, ((2 : Nat) : Int))), (1, (0, a1))]) (st1 := [(0, a1), (0, v1), (2, ((2 : Nat) : Int))]) (h1 := h) rfl ?_
      obtain ⟨v2, hq, hv⟩ := Option.bind_eq_some_iff.mp hv
      refine jT.cSN (M1 := M_X_otherSide) [(0, a1)] [(0, v1), (2, ((2 : Nat) : Int))] (st_Bd_isKingAttacked) rfl rfl ok_X_otherSide rfl (Nat.le_of_ble_eq_true rfl) (Nat.le_of_ble_eq_true rfl) rfl (Nat.le_of_ble_eq_true rfl) (C_X_otherSide hq) ?_
      show jG E _ 17 [(2, (0, v1)), (0, (2, ((2 : Nat) : Int))), (1, (0, a1))] [(0, v2), (0, v1), (2, ((2 : Nat) : Int))] h _ _
      obtain ⟨v3, hq, hv⟩ := Option.bind_eq_some_iff.mp hv
      refine jT.cV (M1 := M_Bd_attacksOn) (2, ((2 : Nat) : Int)) [(0, v1), (0, v2)] [] (st_Bd_isKingAttacked) rfl rfl ok_Bd_attacksOn rfl (Or.inl ⟨rfl, _, _, _, rfl, rfl⟩) (Nat.le_of_ble_eq_true rfl) (Nat.le_of_ble_eq_true rfl) rfl (Nat.le_of_ble_eq_true rfl) (C_Bd_attacksOn (by decide) hq) ?_
      show jG E _ 20 [(2, (0, v1)), (0, (2, ((2 : Nat) : Int))), (1, (0, a1))] [(1, v3)] h _ _
      refine jG.blk (st_Bd_isKingAttacked) 2 (pc1 := 22) (L1 := [(2, (0, v1)), (0, (2, ((2 : Nat) : Int))), (1, (0, a1))]) (st1 := [(0, jcmp v3 0)]) (h1 := h) rfl ?_
      refine jT.if1 (st_Bd_isKingAttacked) rfl (tgt := 29) (by decide) (fun hc => ?_) (fun hc => ?_)
      · have hc : jcmp v3 0 = 0 := hc
        try rw [if_pos hc] at hv
        refine jG.blk (st_Bd_isKingAttacked) 1 (pc1 := 30) (L1 := [(2, (0, v1)), (0, (2, ((2 : Nat) : Int))), (1, (0, a1))]) (st1 := [(0, 0)]) (h1 := h) rfl ?_
        cases hv
        exact jT.iret (st_Bd_isKingAttacked) rfl (Or.inl rfl)
      · have hc : ¬ (jcmp v3 0 = 0) := hc
        try rw [if_neg hc] at hv
        refine jG.blk (st_Bd_isKingAttacked) 1 (pc1 := 26) (L1 := [(2, (0, v1)), (0, (2, ((2 : Nat) : Int))), (1, (0, a1))]) (st1 := [(0, 1)]) (h1 := h) rfl ?_
        refine jT.goto (st_Bd_isKingAttacked) rfl (tgt := 30) (by decide) ?_
        cases hv
        exact jT.iret (st_Bd_isKingAttacked) rfl (Or.inr rfl)
  · refine jC.of ok_Bd_isKingAttacked.1 (by rw [jlg]; exact Nat.le_of_ble_eq_true rfl) ?_
    show jG E _ 0 [(0, (2, ((20 : Nat) : Int))), (1, (0, a1))] [] h _ _
    unfold f_Bd_isKingAttacked at hv
    refine jG.blk (st_Bd_isKingAttacked) 2 (pc1 := 2) (L1 := [(0, (2, ((20 : Nat) : Int))), (1, (0, a1))]) (st1 := [(0, a1), (2, ((20 : Nat) : Int))]) (h1 := h) rfl ?_
    obtain ⟨v1, hq, hv⟩ := Option.bind_eq_some_iff.mp hv
    refine jT.cV (M1 := M_Bd_kingSquare) (2, ((20 : Nat) : Int)) [(0, a1)] [] (st_Bd_isKingAttacked) rfl rfl ok_Bd_kingSquare rfl (Or.inl ⟨rfl, _, _, _, rfl, rfl⟩) (Nat.le_of_ble_eq_true rfl) (Nat.le_of_ble_eq_true rfl) rfl (Nat.le_of_ble_eq_true rfl) (C_Bd_kingSquare (by decide) hq) ?_
    show jG E _ 5 [(0, (2, ((20 : Nat) : Int))), (1, (0, a1))] [(0, v1)] h _ _
    refine jG.blk (st_Bd_isKingAttacked) 3 (pc1 := 8) (L1 := [(2, (0, v1)), (0, (2, ((20 : Nat) : Int))), (1, (0, a1))]) (st1 := [(0, (-1)), (0, v1)]) (h1 := h) rfl ?_
    refine jT.if2 (st_Bd_isKingAttacked) rfl (tgt := 29) (by decide) (fun hc => ?_) (fun hc => ?_)
    · have hc : v1 = (-1) := hc
      try rw [if_pos hc] at hv
      refine jG.blk (st_Bd_isKingAttacked) 1 (pc1 := 30) (L1 := [(2, (0, v1)), (0, (2, ((20 : Nat) : Int))), (1, (0, a1))]) (st1 := [(0, 0)]) (h1 := h) rfl ?_
      cases hv
      exact jT.iret (st_Bd_isKingAttacked) rfl (Or.inl rfl)
    · have hc : ¬ (v1 = (-1)) := hc
      try rw [if_neg hc] at hv
      refine jG.blk (st_Bd_isKingAttacked) 3 (pc1 := 14) (L1 := [(2, (0, v1)), (0, (2, ((20 : Nat) : Int))), (1, (0, a1))]) (st1 := [(0, a1), (0, v1), (2, ((20 : Nat) : Int))]) (h1 := h) rfl ?_
      obtain ⟨v2, hq, hv⟩ := Option.bind_eq_some_iff.mp hv
      refine jT.cSN (M1 := M_X_otherSide) [(0, a1)] [(0, v1), (2, ((20 : Nat) : Int))] (st_Bd_isKingAttacked) rfl rfl ok_X_otherSide rfl (Nat.le_of_ble_eq_true rfl) (Nat.le_of_ble_eq_true rfl) rfl (Nat.le_of_ble_eq_true rfl) (C_X_otherSide hq) ?_
      show jG E _ 17 [(2, (0, v1)), (0, (2, ((20 : Nat) : Int))), (1, (0, a1))] [(0, v2), (0, v1), (2, ((20 : Nat) : Int))] h _ _
      obtain ⟨v3, hq, hv⟩ := Option.bind_eq_some_iff.mp hv
      refine jT.cV (M1 := M_Bd_attacksOn) (2, ((20 : Nat) : Int)) [(0, v1), (0, v2)] [] (st_Bd_isKingAttacked) rfl rfl ok_Bd_attacksOn rfl (Or.inl ⟨rfl, _, _, _, rfl, rfl⟩) (Nat.le_of_ble_eq_true rfl) (Nat.le_of_ble_eq_true rfl) rfl (Nat.le_of_ble_eq_true rfl) (C_Bd_attacksOn (by decide) hq) ?_
      show jG E _ 20 [(2, (0, v1)), (0, (2, ((20 : Nat) : Int))), (1, (0, a1))] [(1, v3)] h _ _
      refine jG.blk (st_Bd_isKingAttacked) 2 (pc1 := 22) (L1 := [(2, (0, v1)), (0, (2, ((20 : Nat) : Int))), (1, (0, a1))]) (st1 := [(0, jcmp v3 0)]) (h1 := h) rfl ?_
      refine jT.if1 (st_Bd_isKingAttacked) rfl (tgt := 29) (by decide) (fun hc => ?_) (fun hc => ?_)
      · have hc : jcmp v3 0 = 0 := hc
        try rw [if_pos hc] at hv
        refine jG.blk (st_Bd_isKingAttacked) 1 (pc1 := 30) (L1 := [(2, (0, v1)), (0, (2, ((20 : Nat) : Int))), (1, (0, a1))]) (st1 := [(0, 0)]) (h1 := h) rfl ?_
        cases hv
        exact jT.iret (st_Bd_isKingAttacked) rfl (Or.inl rfl)
      · have hc : ¬ (jcmp v3 0 = 0) := hc
        try rw [if_neg hc] at hv
        refine jG.blk (st_Bd_isKingAttacked) 1 (pc1 := 26) (L1 := [(2, (0, v1)), (0, (2, ((20 : Nat) : Int))), (1, (0, a1))]) (st1 := [(0, 1)]) (h1 := h) rfl ?_
        refine jT.goto (st_Bd_isKingAttacked) rfl (tgt := 30) (by decide) ?_
        cases hv
        exact jT.iret (st_Bd_isKingAttacked) rfl (Or.inr rfl)
def f_Bd_isGood (h : jH) : Option (Int) := (f_Bd_hasKingsAndPawnsRight h).bind fun v1 => if v1 = 0 then some 0 else (f_Bd_hasRightsRight h).bind fun v2 => if v2 = 0 then some 0 else (f_Bd_hasFileRight h).bind fun v3 => if v3 = 0 then some 0 else (f_X_otherSide h (h 20 1)).bind fun v4 => (f_Bd_isKingAttacked 20 h v4).bind fun v5 => some (if v5 = 0 then 1 else 0)
set_option maxRecDepth 100000 in
set_option maxHeartbeats 4000000 in
theorem C_Bd_isGood {E : jE} {h : jH} {res : Int} (hv : f_Bd_isGood h = some res) : jC E M_Bd_isGood [(2, ((20 : Nat) : Int))] h (some (0, res)) h := by
  refine jC.of ok_Bd_isGood.1 (by rw [jlg]; exact Nat.le_of_ble_eq_true rfl) ?_
  show jG E _ 0 [(0, (2, ((20 : Nat) : Int)))] [] h _ _
  unfold f_Bd_isGood at hv
  refine jG.blk (st_Bd_isGood) 1 (pc1 := 1) (L1 := [(0, (2, ((20 : Nat) : Int)))]) (st1 := [(2, ((20 : Nat) : Int))]) (h1 := h) rfl ?_
  obtain ⟨v1, hq, hv⟩ := Option.bind_eq_some_iff.mp hv
  refine jT.cV (M1 := M_Bd_hasKingsAndPawnsRight) (2, ((20 : Nat) : Int)) [] [] (st_Bd_isGood) rfl rfl ok_Bd_hasKingsAndPawnsRight rfl (Or.inl ⟨rfl, _, _, _, rfl, rfl⟩) (Nat.le_of_ble_eq_true rfl) (Nat.le_of_ble_eq_true rfl) rfl (Nat.le_of_ble_eq_true rfl) (C_Bd_hasKingsAndPawnsRight hq) ?_
  show jG E _ 4 [(0, (2, ((20 : Nat) : Int)))] [(0, v1)] h _ _
  refine jT.if1 (st_Bd_isGood) rfl (tgt := 39) (by decide) (fun hc => ?_) (fun hc => ?_)
  · have hc : v1 = 0 := hc
    try rw [if_pos hc] at hv
    refine jG.blk (st_Bd_isGood) 1 (pc1 := 40) (L1 := [(0, (2, ((20 : Nat) : Int)))]) (st1 := [(0, 0)]) (h1 := h) rfl ?_
    cases hv
    exact jT.iret (st_Bd_isGood) rfl (Or.inl rfl)
  · have hc : ¬ (v1 = 0) := hc
    try rw [if_neg hc] at hv
    refine jG.blk (st_Bd_isGood) 1 (pc1 := 8) (L1 := [(0, (2, ((20 : Nat) : Int)))]) (st1 := [(2, ((20 : Nat) : Int))]) (h1 := h) rfl ?_
    obtain ⟨v2, hq, hv⟩ := Option.bind_eq_some_iff.mp hv
    refine jT.cV (M1 := M_Bd_hasRightsRight) (2, ((20 : Nat) : Int)) [] [] (st_Bd_isGood) rfl rfl ok_Bd_hasRightsRight rfl (Or.inl ⟨rfl, _, _, _, rfl, rfl⟩) (Nat.le_of_ble_eq_true rfl) (Nat.le_of_ble_eq_true rfl) rfl (Nat.le_of_ble_eq_true rfl) (C_Bd_hasRightsRight hq) ?_
    show jG E _ 11 [(0, (2, ((20 : Nat) : Int)))] [(0, v2)] h _ _
    refine jT.if1 (st_Bd_isGood) rfl (tgt := 39) (by decide) (fun hc => ?_) (fun hc => ?_)
    · have hc : v2 = 0 := hc
      try rw [if_pos hc] at hv
      refine jG.blk (st_Bd_isGood) 1 (pc1 := 40) (L1 := [(0, (2, ((20 : Nat) : Int)))]) (st1 := [(0, 0)]) (h1 := h) rfl ?_
      cases hv
      exact jT.iret (st_Bd_isGood) rfl (Or.inl rfl)
    · have hc : ¬ (v2 = 0) := hc
      try rw [if_neg hc] at hv
      refine jG.blk (st_Bd_isGood) 1 (pc1 := 15) (L1 := [(0, (2, ((20 : Nat) : Int)))]) (st1 := [(2, ((20 : Nat) : Int))]) (h1 := h) rfl ?_
      obtain ⟨v3, hq, hv⟩ := Option.bind_eq_some_iff.mp hv
      refine jT.cV (M1 := M_Bd_hasFileRight) (2, ((20 : Nat) : Int)) [] [] (st_Bd_isGood) rfl rfl ok_Bd_hasFileRight rfl (Or.inl ⟨rfl, _, _, _, rfl, rfl⟩) (Nat.le_of_ble_eq_true rfl) (Nat.le_of_ble_eq_true rfl) rfl (Nat.le_of_ble_eq_true rfl) (C_Bd_hasFileRight hq) ?_
      show jG E _ 18 [(0, (2, ((20 : Nat) : Int)))] [(0, v3)] h _ _
      refine jT.if1 (st_Bd_isGood) rfl (tgt := 39) (by decide) (fun hc => ?_) (fun hc => ?_)
      · have hc : v3 = 0 := hc
        try rw [if_pos hc] at hv
        refine jG.blk (st_Bd_isGood) 1 (pc1 := 40) (L1 := [(0, (2, ((20 : Nat) : Int)))]) (st1 := [(0, 0)]) (h1 := h) rfl ?_
        cases hv
        exact jT.iret (st_Bd_isGood) rfl (Or.inl rfl)
      · have hc : ¬ (v3 = 0) := hc
        try rw [if_neg hc] at hv
        refine jG.blk (st_Bd_isGood) 3 (pc1 := 26) (L1 := [(0, (2, ((20 : Nat) : Int)))]) (st1 := [(0, h 20 1), (2, ((20 : Nat) : Int))]) (h1 := h) rfl ?_
        obtain ⟨v4, hq, hv⟩ := Option.bind_eq_some_iff.mp hv
        refine jT.cSN (M1 := M_X_otherSide) [(0, h 20 1)] [(2, ((20 : Nat) : Int))] (st_Bd_isGood) rfl rfl ok_X_otherSide rfl (Nat.le_of_ble_eq_true rfl) (Nat.le_of_ble_eq_true rfl) rfl (Nat.le_of_ble_eq_true rfl) (C_X_otherSide hq) ?_
        show jG E _ 29 [(0, (2, ((20 : Nat) : Int)))] [(0, v4), (2, ((20 : Nat) : Int))] h _ _
        obtain ⟨v5, hq, hv⟩ := Option.bind_eq_some_iff.mp hv
        refine jT.cV (M1 := M_Bd_isKingAttacked) (2, ((20 : Nat) : Int)) [(0, v4)] [] (st_Bd_isGood) rfl rfl ok_Bd_isKingAttacked rfl (Or.inl ⟨rfl, _, _, _, rfl, rfl⟩) (Nat.le_of_ble_eq_true rfl) (Nat.le_of_ble_eq_true rfl) rfl (Nat.le_of_ble_eq_true rfl) (C_Bd_isKingAttacked (by decide) hq) ?_
        show jG E _ 32 [(0, (2, ((20 : Nat) : Int)))] [(0, v5)] h _ _
        refine jT.if1 (st_Bd_isGood) rfl (tgt := 39) (by decide) (fun hc => ?_) (fun hc => ?_)
        · have hc : ¬ (v5 = 0) := hc
          try rw [if_neg hc] at hv
          refine jG.blk (st_Bd_isGood) 1 (pc1 := 40) (L1 := [(0, (2, ((20 : Nat) : Int)))]) (st1 := [(0, 0)]) (h1 := h) rfl ?_
          cases hv
          exact jT.iret (st_Bd_isGood) rfl (Or.inl rfl)
        · have hc : v5 = 0 := Decidable.not_not.mp hc
          try rw [if_pos hc] at hv
          refine jG.blk (st_Bd_isGood) 1 (pc1 := 36) (L1 := [(0, (2, ((20 : Nat) : Int)))]) (st1 := [(0, 1)]) (h1 := h) rfl ?_
          refine jT.goto (st_Bd_isGood) rfl (tgt := 40) (by decide) ?_
          cases hv
          exact jT.iret (st_Bd_isGood) rfl (Or.inr rfl)
def f_Bd_passedSquare (h : jH) : Option (Int) := if h 2 3 = (-1) then some (-1) else (f_X_otherSide h (h 2 1)).bind fun v1 => (f_X_rankFor h v1 2).bind fun v2 => (f_X_squareAt h (h 2 3) v2).bind fun v3 => some v3
set_option maxRecDepth 100000 in
set_option maxHeartbeats 4000000 in
theorem C_Bd_passedSquare {E : jE} {h : jH} {res : Int} (hv : f_Bd_passedSquare h = some res) : jC E M_Bd_passedSquare [(2, ((2 : Nat) : Int))] h (some (0, res)) h := by
  refine jC.of ok_Bd_passedSquare.1 (by rw [jlg]; exact Nat.le_of_ble_eq_true rfl) ?_
  show jG E _ 0 [(0, (2, ((2 : Nat) : Int)))] [] h _ _
  unfold f_Bd_passedSquare at hv
  refine jG.blk (st_Bd_passedSquare) 3 (pc1 := 5) (L1 := [(0, (2, ((2 : Nat) : Int)))]) (st1 := [(0, (-1)), (0, h 2 3)]) (h1 := h) rfl ?_
  refine jT.if2 (st_Bd_passedSquare) rfl (tgt := 12) (by decide) (fun hc => ?_) (fun hc => ?_)
  · have hc : ¬ (h 2 3 = (-1)) := hc
    try rw [if_neg hc] at hv
    refine jG.blk (st_Bd_passedSquare) 4 (pc1 := 20) (L1 := [(0, (2, ((2 : Nat) : Int)))]) (st1 := [(0, h 2 1), (0, h 2 3)]) (h1 := h) rfl ?_
    obtain ⟨v1, hq, hv⟩ := Option.bind_eq_some_iff.mp hv
    refine jT.cSN (M1 := M_X_otherSide) [(0, h 2 1)] [(0, h 2 3)] (st_Bd_passedSquare) rfl rfl ok_X_otherSide rfl (Nat.le_of_ble_eq_true rfl) (Nat.le_of_ble_eq_true rfl) rfl (Nat.le_of_ble_eq_true rfl) (C_X_otherSide hq) ?_
    show jG E _ 23 [(0, (2, ((2 : Nat) : Int)))] [(0, v1), (0, h 2 3)] h _ _
    refine jG.blk (st_Bd_passedSquare) 1 (pc1 := 24) (L1 := [(0, (2, ((2 : Nat) : Int)))]) (st1 := [(0, 2), (0, v1), (0, h 2 3)]) (h1 := h) rfl ?_
    obtain ⟨v2, hq, hv⟩ := Option.bind_eq_some_iff.mp hv
    refine jT.cSN (M1 := M_X_rankFor) [(0, v1), (0, 2)] [(0, h 2 3)] (st_Bd_passedSquare) rfl rfl ok_X_rankFor rfl (Nat.le_of_ble_eq_true rfl) (Nat.le_of_ble_eq_true rfl) rfl (Nat.le_of_ble_eq_true rfl) (C_X_rankFor hq) ?_
    show jG E _ 27 [(0, (2, ((2 : Nat) : Int)))] [(0, v2), (0, h 2 3)] h _ _
    obtain ⟨v3, hq, hv⟩ := Option.bind_eq_some_iff.mp hv
    refine jT.cSN (M1 := M_X_squareAt) [(0, h 2 3), (0, v2)] [] (st_Bd_passedSquare) rfl rfl ok_X_squareAt rfl (Nat.le_of_ble_eq_true rfl) (Nat.le_of_ble_eq_true rfl) rfl (Nat.le_of_ble_eq_true rfl) (C_X_squareAt hq) ?_
    show jG E _ 30 [(0, (2, ((2 : Nat) : Int)))] [(0, v3)] h _ _
    cases hv
    exact jT.iret (st_Bd_passedSquare) rfl trivial
  · have hc : h 2 3 = (-1) := Decidable.not_not.mp hc
    try rw [if_pos hc] at hv
    refine jG.blk (st_Bd_passedSquare) 1 (pc1 := 9) (L1 := [(0, (2, ((2 : Nat) : Int)))]) (st1 := [(0, (-1))]) (h1 := h) rfl ?_
    refine jT.goto (st_Bd_passedSquare) rfl (tgt := 30) (by decide) ?_
    cases hv
    exact jT.iret (st_Bd_passedSquare) rfl trivial
def f_Bd_victimSquare (h : jH) (a1 : Int) (a2 : Int) : Option (Int) := jgd (0 ≤ a1 ∧ a1 < 64) ((f_X_kindOf h (h 3 a1.toNat)).bind fun v1 => if v1 = 1 then (f_Bd_passedSquare h).bind fun v2 => if a2 = v2 then (f_X_squareAt h (jand a2 7) (jshr a1 3)).bind fun v3 => some v3 else some a2 else some a2)
set_option maxRecDepth 100000 in
set_option maxHeartbeats 4000000 in
theorem C_Bd_victimSquare {E : jE} {h : jH} {a1 : Int} {a2 : Int} {res : Int} (hv : f_Bd_victimSquare h a1 a2 = some res) : jC E M_Bd_victimSquare [(2, ((2 : Nat) : Int)), (0, a1), (0, a2)] h (some (0, res)) h := by
  refine jC.of ok_Bd_victimSquare.1 (by rw [jlg]; exact Nat.le_of_ble_eq_true rfl) ?_
  show jG E _ 0 [(0, (2, ((2 : Nat) : Int))), (1, (0, a1)), (2, (0, a2))] [] h _ _
  unfold f_Bd_victimSquare at hv
  refine jG.blk (st_Bd_victimSquare) 3 (pc1 := 5) (L1 := [(0, (2, ((2 : Nat) : Int))), (1, (0, a1)), (2, (0, a2))]) (st1 := [(0, a1), (2, ((3 : Nat) : Int))]) (h1 := h) rfl ?_
  obtain ⟨hg, hv⟩ := jgd_some hv
  refine jT.iald (a := 3) (st_Bd_victimSquare) rfl rfl (by decide) hg.1 hg.2 ?_
  obtain ⟨v1, hq, hv⟩ := Option.bind_eq_some_iff.mp hv
  refine jT.cSN (M1 := M_X_kindOf) [(0, h 3 a1.toNat)] [] (st_Bd_victimSquare) rfl rfl ok_X_kindOf rfl (Nat.le_of_ble_eq_true rfl) (Nat.le_of_ble_eq_true rfl) rfl (Nat.le_of_ble_eq_true rfl) (C_X_kindOf hq) ?_
  show jG E _ 9 [(0, (2, ((2 : Nat) : Int))), (1, (0, a1)), (2, (0, a2))] [(0, v1)] h _ _
  refine jG.blk (st_Bd_victimSquare) 1 (pc1 := 10) (L1 := [(0, (2, ((2 : Nat) : Int))), (1, (0, a1)), (2, (0, a2))]) (st1 := [(0, 1), (0, v1)]) (h1 := h) rfl ?_
  refine jT.if2 (st_Bd_victimSquare) rfl (tgt := 32) (by decide) (fun hc => ?_) (fun hc => ?_)
  · have hc : ¬ (v1 = 1) := hc
    try rw [if_neg hc] at hv
    refine jG.blk (st_Bd_victimSquare) 1 (pc1 := 33) (L1 := [(0, (2, ((2 : Nat) : Int))), (1, (0, a1)), (2, (0, a2))]) (st1 := [(0, a2)]) (h1 := h) rfl ?_
    cases hv
    exact jT.iret (st_Bd_victimSquare) rfl trivial
  · have hc : v1 = 1 := Decidable.not_not.mp hc
    try rw [if_pos hc] at hv
    refine jG.blk (st_Bd_victimSquare) 2 (pc1 := 15) (L1 := [(0, (2, ((2 : Nat) : Int))), (1, (0, a1)), (2, (0, a2))]) (st1 := [(2, ((2 : Nat) : Int)), (0, a2)]) (h1 := h) rfl ?_
    obtain ⟨v2, hq, hv⟩ := Option.bind_eq_some_iff.mp hv
    refine jT.cV (M1 := M_Bd_passedSquare) (2, ((2 : Nat) : Int)) [] [(0, a2)] (st_Bd_victimSquare) rfl rfl ok_Bd_passedSquare rfl (Or.inl ⟨rfl, _, _, _, rfl, rfl⟩) (Nat.le_of_ble_eq_true rfl) (Nat.le_of_ble_eq_true rfl) rfl (Nat.le_of_ble_eq_true rfl) (C_Bd_passedSquare hq) ?_
    show jG E _ 18 [(0, (2, ((2 : Nat) : Int))), (1, (0, a1)), (2, (0, a2))] [(0, v2), (0, a2)] h _ _
    refine jT.if2 (st_Bd_victimSquare) rfl (tgt := 32) (by decide) (fun hc => ?_) (fun hc => ?_)
    · have hc : ¬ (a2 = v2) := hc
      try rw [if_neg hc] at hv
      refine jG.blk (st_Bd_victimSquare) 1 (pc1 := 33) (L1 := [(0, (2, ((2 : Nat) : Int))), (1, (0, a1)), (2, (0, a2))]) (st1 := [(0, a2)]) (h1 := h) rfl ?_
      cases hv
      exact jT.iret (st_Bd_victimSquare) rfl trivial
    · have hc : a2 = v2 := Decidable.not_not.mp hc
      try rw [if_pos hc] at hv
      refine jG.blk (st_Bd_victimSquare) 6 (pc1 := 28) (L1 := [(0, (2, ((2 : Nat) : Int))), (1, (0, a1)), (2, (0, a2))]) (st1 := [(0, jshr a1 3), (0, jand a2 7)]) (h1 := h) rfl ?_
      obtain ⟨v3, hq, hv⟩ := Option.bind_eq_some_iff.mp hv
      refine jT.cSN (M1 := M_X_squareAt) [(0, jand a2 7), (0, jshr a1 3)] [] (st_Bd_victimSquare) rfl rfl ok_X_squareAt rfl (Nat.le_of_ble_eq_true rfl) (Nat.le_of_ble_eq_true rfl) rfl (Nat.le_of_ble_eq_true rfl) (C_X_squareAt hq) ?_
      show jG E _ 31 [(0, (2, ((2 : Nat) : Int))), (1, (0, a1)), (2, (0, a2))] [(0, v3)] h _ _
      cases hv
      exact jT.iret (st_Bd_victimSquare) rfl trivial
def f_Bd_isSafeBehind_j79 (h17 : jH) (l11 : Int) (l12 : Int) (l13 : Int) (l14 : Int) (l15 : Int) (s16 : Int) : Option (Int × jH) := jgd (0 ≤ l12 ∧ l12 < 64) (jgd (0 ≤ l11 ∧ l11 < 64) (jgd (0 ≤ l13 ∧ l13 < 64) (jgd (s16 = 0 ∨ s16 = 1) (some (s16, jup (jup (jup h17 3 l12.toNat 0) 3 l11.toNat l14) 3 l13.toNat l15)))))
def f_Bd_isSafeBehind_j59 (h8 : jH) (l2 : Int) (l3 : Int) (l4 : Int) (l5 : Int) (l6 : Int) (s7 : Int) : Option (Int × jH) := (f_X_otherSide h8 (h8 2 1)).bind fun v9 => (f_Bd_attacksOn 2 h8 s7 v9).bind fun v10 => f_Bd_isSafeBehind_j79 h8 l2 l3 l4 l5 l6 (if jcmp v10 0 = 0 then 1 else 0)
def f_Bd_isSafeBehind (h : jH) (a1 : Int) (a2 : Int) (a3 : Int) : Option (Int × jH) := (f_Bd_victimSquare h a1 a2).bind fun v1 => jgd (0 ≤ a1 ∧ a1 < 64) (jgd (0 ≤ v1 ∧ v1 < 64) (jgd (0 ≤ v1 ∧ v1 < 64) (jgd (0 ≤ a1 ∧ a1 < 64) (jgd (0 ≤ a2 ∧ a2 < 64) (f_Bd_isSafeBehind_j59 (jup (jup (jup h 3 v1.toNat 0) 3 a1.toNat 0) 3 a2.toNat (h 3 a1.toNat)) a1 a2 v1 (h 3 a1.toNat) (h 3 v1.toNat) (if a1 = a3 then a2 else a3))))))
set_option maxRecDepth 100000 in
set_option maxHeartbeats 4000000 in
theorem f_Bd_isSafeBehind_j79_ok (E : jE) {h17 : jH} {l11 : Int} {l12 : Int} {l13 : Int} {l14 : Int} {l15 : Int} {s16 : Int} {res : Int × jH} (hv : f_Bd_isSafeBehind_j79 h17 l11 l12 l13 l14 l15 s16 = some res) : jG E M_Bd_isSafeBehind 79 [(0, (2, ((2 : Nat) : Int))), (1, (0, l11)), (2, (0, l12)), (4, (0, l13)), (5, (0, l14)), (6, (0, l15))] [(0, s16)] h17 (some (0, res.1)) res.2 := by
  unfold f_Bd_isSafeBehind_j79 at hv
  refine jG.blk (st_Bd_isSafeBehind) 5 (pc1 := 87) (L1 := [(7, (0, s16)), (0, (2, ((2 : Nat) : Int))), (1, (0, l11)), (2, (0, l12)), (4, (0, l13)), (5, (0, l14)), (6, (0, l15))]) (st1 := [(0, 0), (0, l12), (2, ((3 : Nat) : Int))]) (h1 := h17) rfl ?_
  obtain ⟨hg, hv⟩ := jgd_some hv
  refine jT.iast (a := 3) (st_Bd_isSafeBehind) rfl rfl (by decide) hg.1 hg.2 ?_
  refine jG.blk (st_Bd_isSafeBehind) 4 (pc1 := 95) (L1 := [(7, (0, s16)), (0, (2, ((2 : Nat) : Int))), (1, (0, l11)), (2, (0, l12)), (4, (0, l13)), (5, (0, l14)), (6, (0, l15))]) (st1 := [(0, l14), (0, l11), (2, ((3 : Nat) : Int))]) (h1 := jup h17 3 l12.toNat 0) rfl ?_
  obtain ⟨hg, hv⟩ := jgd_some hv
  refine jT.iast (a := 3) (st_Bd_isSafeBehind) rfl rfl (by decide) hg.1 hg.2 ?_
  refine jG.blk (st_Bd_isSafeBehind) 4 (pc1 := 104) (L1 := [(7, (0, s16)), (0, (2, ((2 : Nat) : Int))), (1, (0, l11)), (2, (0, l12)), (4, (0, l13)), (5, (0, l14)), (6, (0, l15))]) (st1 := [(0, l15), (0, l13), (2, ((3 : Nat) : Int))]) (h1 := jup (jup h17 3 l12.toNat 0) 3 l11.toNat l14) rfl ?_
  obtain ⟨hg, hv⟩ := jgd_some hv
  refine jT.iast (a := 3) (st_Bd_isSafeBehind) rfl rfl (by decide) hg.1 hg.2 ?_
  refine jG.blk (st_Bd_isSafeBehind) 1 (pc1 := 107) (L1 := [(7, (0, s16)), (0, (2, ((2 : Nat) : Int))), (1, (0, l11)), (2, (0, l12)), (4, (0, l13)), (5, (0, l14)), (6, (0, l15))]) (st1 := [(0, s16)]) (h1 := jup (jup (jup h17 3 l12.toNat 0) 3 l11.toNat l14) 3 l13.toNat l15) rfl ?_
  obtain ⟨hg, hv⟩ := jgd_some hv
  cases hv
  exact jT.iret (st_Bd_isSafeBehind) rfl hg
set_option maxRecDepth 100000 in
set_option maxHeartbeats 4000000 in
theorem f_Bd_isSafeBehind_j59_ok (E : jE) {h8 : jH} {l2 : Int} {l3 : Int} {l4 : Int} {l5 : Int} {l6 : Int} {s7 : Int} {res : Int × jH} (hv : f_Bd_isSafeBehind_j59 h8 l2 l3 l4 l5 l6 s7 = some res) : jG E M_Bd_isSafeBehind 59 [(0, (2, ((2 : Nat) : Int))), (1, (0, l2)), (2, (0, l3)), (4, (0, l4)), (5, (0, l5)), (6, (0, l6))] [(0, s7), (2, ((2 : Nat) : Int))] h8 (some (0, res.1)) res.2 := by
  unfold f_Bd_isSafeBehind_j59 at hv
  refine jG.blk (st_Bd_isSafeBehind) 2 (pc1 := 63) (L1 := [(0, (2, ((2 : Nat) : Int))), (1, (0, l2)), (2, (0, l3)), (4, (0, l4)), (5, (0, l5)), (6, (0, l6))]) (st1 := [(0, h8 2 1), (0, s7), (2, ((2 : Nat) : Int))]) (h1 := h8) rfl ?_
  obtain ⟨v9, hq, hv⟩ := Option.bind_eq_some_iff.mp hv
  refine jT.cSN (M1 := M_X_otherSide) [(0, h8 2 1)] [(0, s7), (2, ((2 : Nat) : Int))] (st_Bd_isSafeBehind) rfl rfl ok_X_otherSide rfl (Nat.le_of_ble_eq_true rfl) (Nat.le_of_ble_eq_true rfl) rfl (Nat.le_of_ble_eq_true rfl) (C_X_otherSide hq) ?_
  show jG E _ 66 [(0, (2, ((2 : Nat) : Int))), (1, (0, l2)), (2, (0, l3)), (4, (0, l4)), (5, (0, l5)), (6, (0, l6))] [(0, v9), (0, s7), (2, ((2 : Nat) : Int))] h8 _ _
  obtain ⟨v10, hq, hv⟩ := Option.bind_eq_some_iff.mp hv
  refine jT.cV (M1 := M_Bd_attacksOn) (2, ((2 : Nat) : Int)) [(0, s7), (0, v9)] [] (st_Bd_isSafeBehind) rfl rfl ok_Bd_attacksOn rfl (Or.inl ⟨rfl, _, _, _, rfl, rfl⟩) (Nat.le_of_ble_eq_true rfl) (Nat.le_of_ble_eq_true rfl) rfl (Nat.le_of_ble_eq_true rfl) (C_Bd_attacksOn (by decide) hq) ?_
  show jG E _ 69 [(0, (2, ((2 : Nat) : Int))), (1, (0, l2)), (2, (0, l3)), (4, (0, l4)), (5, (0, l5)), (6, (0, l6))] [(1, v10)] h8 _ _
  refine jG.blk (st_Bd_isSafeBehind) 2 (pc1 := 71) (L1 := [(0, (2, ((2 : Nat) : Int))), (1, (0, l2)), (2, (0, l3)), (4, (0, l4)), (5, (0, l5)), (6, (0, l6))]) (st1 := [(0, jcmp v10 0)]) (h1 := h8) rfl ?_
  refine jT.if1 (st_Bd_isSafeBehind) rfl (tgt := 78) (by decide) (fun hc => ?_) (fun hc => ?_)
  · have hc : ¬ (jcmp v10 0 = 0) := hc
    try rw [if_neg hc] at hv
    refine jG.blk (st_Bd_isSafeBehind) 1 (pc1 := 79) (L1 := [(0, (2, ((2 : Nat) : Int))), (1, (0, l2)), (2, (0, l3)), (4, (0, l4)), (5, (0, l5)), (6, (0, l6))]) (st1 := [(0, 0)]) (h1 := h8) rfl ?_
    exact f_Bd_isSafeBehind_j79_ok E hv
  · have hc : jcmp v10 0 = 0 := Decidable.not_not.mp hc
    try rw [if_pos hc] at hv
    refine jG.blk (st_Bd_isSafeBehind) 1 (pc1 := 75) (L1 := [(0, (2, ((2 : Nat) : Int))), (1, (0, l2)), (2, (0, l3)), (4, (0, l4)), (5, (0, l5)), (6, (0, l6))]) (st1 := [(0, 1)]) (h1 := h8) rfl ?_
    refine jT.goto (st_Bd_isSafeBehind) rfl (tgt := 79) (by decide) ?_
    exact f_Bd_isSafeBehind_j79_ok E hv
set_option maxRecDepth 100000 in
set_option maxHeartbeats 4000000 in
theorem C_Bd_isSafeBehind {E : jE} {h : jH} {a1 : Int} {a2 : Int} {a3 : Int} {res : Int × jH} (hv : f_Bd_isSafeBehind h a1 a2 a3 = some res) : jC E M_Bd_isSafeBehind [(2, ((2 : Nat) : Int)), (0, a1), (0, a2), (0, a3)] h (some (0, res.1)) res.2 := by
  refine jC.of ok_Bd_isSafeBehind.1 (by rw [jlg]; exact Nat.le_of_ble_eq_true rfl) ?_
  show jG E _ 0 [(0, (2, ((2 : Nat) : Int))), (1, (0, a1)), (2, (0, a2)), (3, (0, a3))] [] h _ _
  unfold f_Bd_isSafeBehind at hv
  refine jG.blk (st_Bd_isSafeBehind) 3 (pc1 := 3) (L1 := [(0, (2, ((2 : Nat) : Int))), (1, (0, a1)), (2, (0, a2)), (3, (0, a3))]) (st1 := [(0, a2), (0, a1), (2, ((2 : Nat) : Int))]) (h1 := h) rfl ?_
  obtain ⟨v1, hq, hv⟩ := Option.bind_eq_some_iff.mp hv
  refine jT.cV (M1 := M_Bd_victimSquare) (2, ((2 : Nat) : Int)) [(0, a1), (0, a2)] [] (st_Bd_isSafeBehind) rfl rfl ok_Bd_victimSquare rfl (Or.inl ⟨rfl, _, _, _, rfl, rfl⟩) (Nat.le_of_ble_eq_true rfl) (Nat.le_of_ble_eq_true rfl) rfl (Nat.le_of_ble_eq_true rfl) (C_Bd_victimSquare hq) ?_
  show jG E _ 6 [(0, (2, ((2 : Nat) : Int))), (1, (0, a1)), (2, (0, a2)), (3, (0, a3))] [(0, v1)] h _ _
  refine jG.blk (st_Bd_isSafeBehind) 4 (pc1 := 13) (L1 := [(4, (0, v1)), (0, (2, ((2 : Nat) : Int))), (1, (0, a1)), (2, (0, a2)), (3, (0, a3))]) (st1 := [(0, a1), (2, ((3 : Nat) : Int))]) (h1 := h) rfl ?_
  obtain ⟨hg, hv⟩ := jgd_some hv
  refine jT.iald (a := 3) (st_Bd_isSafeBehind) rfl rfl (by decide) hg.1 hg.2 ?_
  refine jG.blk (st_Bd_isSafeBehind) 4 (pc1 := 22) (L1 := [(5, (0, h 3 a1.toNat)), (4, (0, v1)), (0, (2, ((2 : Nat) : Int))), (1, (0, a1)), (2, (0, a2)), (3, (0, a3))]) (st1 := [(0, v1), (2, ((3 : Nat) : Int))]) (h1 := h) rfl ?_
  obtain ⟨hg, hv⟩ := jgd_some hv
  refine jT.iald (a := 3) (st_Bd_isSafeBehind) rfl rfl (by decide) hg.1 hg.2 ?_
  refine jG.blk (st_Bd_isSafeBehind) 5 (pc1 := 32) (L1 := [(6, (0, h 3 v1.toNat)), (5, (0, h 3 a1.toNat)), (4, (0, v1)), (0, (2, ((2 : Nat) : Int))), (1, (0, a1)), (2, (0, a2)), (3, (0, a3))]) (st1 := [(0, 0), (0, v1), (2, ((3 : Nat) : Int))]) (h1 := h) rfl ?_
  obtain ⟨hg, hv⟩ := jgd_some hv
  refine jT.iast (a := 3) (st_Bd_isSafeBehind) rfl rfl (by decide) hg.1 hg.2 ?_
  refine jG.blk (st_Bd_isSafeBehind) 4 (pc1 := 39) (L1 := [(6, (0, h 3 v1.toNat)), (5, (0, h 3 a1.toNat)), (4, (0, v1)), (0, (2, ((2 : Nat) : Int))), (1, (0, a1)), (2, (0, a2)), (3, (0, a3))]) (st1 := [(0, 0), (0, a1), (2, ((3 : Nat) : Int))]) (h1 := jup h 3 v1.toNat 0) rfl ?_
  obtain ⟨hg, hv⟩ := jgd_some hv
  refine jT.iast (a := 3) (st_Bd_isSafeBehind) rfl rfl (by decide) hg.1 hg.2 ?_
  refine jG.blk (st_Bd_isSafeBehind) 4 (pc1 := 47) (L1 := [(6, (0, h 3 v1.toNat)), (5, (0, h 3 a1.toNat)), (4, (0, v1)), (0, (2, ((2 : Nat) : Int))), (1, (0, a1)), (2, (0, a2)), (3, (0, a3))]) (st1 := [(0, h 3 a1.toNat), (0, a2), (2, ((3 : Nat) : Int))]) (h1 := jup (jup h 3 v1.toNat 0) 3 a1.toNat 0) rfl ?_
  obtain ⟨hg, hv⟩ := jgd_some hv
  refine jT.iast (a := 3) (st_Bd_isSafeBehind) rfl rfl (by decide) hg.1 hg.2 ?_
  refine jG.blk (st_Bd_isSafeBehind) 3 (pc1 := 51) (L1 := [(6, (0, h 3 v1.toNat)), (5, (0, h 3 a1.toNat)), (4, (0, v1)), (0, (2, ((2 : Nat) : Int))), (1, (0, a1)), (2, (0, a2)), (3, (0, a3))]) (st1 := [(0, a3), (0, a1), (2, ((2 : Nat) : Int))]) (h1 := jup (jup (jup h 3 v1.toNat 0) 3 a1.toNat 0) 3 a2.toNat (h 3 a1.toNat)) rfl ?_
  refine jT.if2 (st_Bd_isSafeBehind) rfl (tgt := 58) (by decide) (fun hc => ?_) (fun hc => ?_)
  · have hc : ¬ (a1 = a3) := hc
    try rw [if_neg hc] at hv
    refine jG.blk (st_Bd_isSafeBehind) 1 (pc1 := 59) (L1 := [(6, (0, h 3 v1.toNat)), (5, (0, h 3 a1.toNat)), (4, (0, v1)), (0, (2, ((2 : Nat) : Int))), (1, (0, a1)), (2, (0, a2)), (3, (0, a3))]) (st1 := [(0, a3), (2, ((2 : Nat) : Int))]) (h1 := jup (jup (jup h 3 v1.toNat 0) 3 a1.toNat 0) 3 a2.toNat (h 3 a1.toNat)) rfl ?_
    refine jG.subp [3, 4, 5, 2, 1, 0] (L1 := [(0, (2, ((2 : Nat) : Int))), (1, (0, a1)), (2, (0, a2)), (4, (0, v1)), (5, (0, h 3 a1.toNat)), (6, (0, h 3 v1.toNat))]) rfl ?_
    exact f_Bd_isSafeBehind_j59_ok E hv
  · have hc : a1 = a3 := Decidable.not_not.mp hc
    try rw [if_pos hc] at hv
    refine jG.blk (st_Bd_isSafeBehind) 1 (pc1 := 55) (L1 := [(6, (0, h 3 v1.toNat)), (5, (0, h 3 a1.toNat)), (4, (0, v1)), (0, (2, ((2 : Nat) : Int))), (1, (0, a1)), (2, (0, a2)), (3, (0, a3))]) (st1 := [(0, a2), (2, ((2 : Nat) : Int))]) (h1 := jup (jup (jup h 3 v1.toNat 0) 3 a1.toNat 0) 3 a2.toNat (h 3 a1.toNat)) rfl ?_
    refine jT.goto (st_Bd_isSafeBehind) rfl (tgt := 59) (by decide) ?_
    refine jG.subp [3, 4, 5, 2, 1, 0] (L1 := [(0, (2, ((2 : Nat) : Int))), (1, (0, a1)), (2, (0, a2)), (4, (0, v1)), (5, (0, h 3 a1.toNat)), (6, (0, h 3 v1.toNat))]) rfl ?_
    exact f_Bd_isSafeBehind_j59_ok E hv
def f_Bd_passingTakers_lp26 (x5 : Int) (x6 : Int) (k : Int → Int → jH → Option (Int × jH)) : Nat → Int → Int → jH → Option (Int × jH)
  | 0, _, _, _ => none
  | n + 1, l3, l4, h7 => if 1 < l4 then k l3 l4 h7 else (f_X_forwardOf h7 (h7 2 1)).bind fun v8 => (f_X_shifted h7 x5 l4 (jneg v8)).bind fun v9 => if v9 = (-1) then f_Bd_passingTakers_lp26 x5 x6 k n l3 (jadd l4 2) h7 else jgd (0 ≤ v9 ∧ v9 < 64) ((f_X_pieceOf h7 1 (h7 2 1)).bind fun v10 => if h7 3 v9.toNat = v10 then (f_Bd_isSafeBehind h7 v9 x5 x6).bind fun v11 => f_Bd_passingTakers_lp26 x5 x6 k n (if v11.1 = 0 then l3 else jlor l3 (jlshl 1 v9)) (jadd l4 2) v11.2 else f_Bd_passingTakers_lp26 x5 x6 k n l3 (jadd l4 2) h7)
def f_Bd_passingTakers (h : jH) : Option (Int × jH) := (f_Bd_passedSquare h).bind fun v1 => if v1 = (-1) then some (0, h) else (f_Bd_kingSquare 2 h (h 2 1)).bind fun v2 => f_Bd_passingTakers_lp26 v1 v2 (fun l12 l13 h14 => some (l12, h14)) 1000 0 (-1) h
set_option maxRecDepth 100000 in
set_option maxHeartbeats 4000000 in
theorem f_Bd_passingTakers_lp26_ok (E : jE) {x5 : Int} {x6 : Int} {k : Int → Int → jH → Option (Int × jH)} (hk : ∀ (l3 : Int) (l4 : Int) (h7 : jH) (res : Int × jH), k l3 l4 h7 = some res → jG E M_Bd_passingTakers 96 [(3, (1, l3))] [] h7 (some (1, res.1)) res.2) : ∀ (n : Nat) (l3 : Int) (l4 : Int) (h7 : jH) (res : Int × jH), f_Bd_passingTakers_lp26 x5 x6 k n l3 l4 h7 = some res → jG E M_Bd_passingTakers 26 [(0, (2, ((2 : Nat) : Int))), (1, (0, x5)), (2, (0, x6)), (3, (1, l3)), (5, (0, l4))] [] h7 (some (1, res.1)) res.2 := by
  intro n
  induction n with
  | zero => intro l3 l4 h7 res hv; cases hv
  | succ n ih =>
    intro l3 l4 h7 res hv
    rw [f_Bd_passingTakers_lp26] at hv
    refine jG.blk (st_Bd_passingTakers) 2 (pc1 := 29) (L1 := [(0, (2, ((2 : Nat) : Int))), (1, (0, x5)), (2, (0, x6)), (3, (1, l3)), (5, (0, l4))]) (st1 := [(0, 1), (0, l4)]) (h1 := h7) rfl ?_
    refine jT.if2 (st_Bd_passingTakers) rfl (tgt := 96) (by decide) (fun hc => ?_) (fun hc => ?_)
    · have hc : 1 < l4 := hc
      try rw [if_pos hc] at hv
      refine jG.subp [3] (L1 := [(3, (1, l3))]) rfl ?_
      exact hk _ _ _ _ hv
    · have hc : ¬ (1 < l4) := hc
      try rw [if_neg hc] at hv
      refine jG.blk (st_Bd_passingTakers) 4 (pc1 := 39) (L1 := [(0, (2, ((2 : Nat) : Int))), (1, (0, x5)), (2, (0, x6)), (3, (1, l3)), (5, (0, l4))]) (st1 := [(0, h7 2 1), (0, l4), (0, x5)]) (h1 := h7) rfl ?_
      obtain ⟨v8, hq, hv⟩ := Option.bind_eq_some_iff.mp hv
      refine jT.cSN (M1 := M_X_forwardOf) [(0, h7 2 1)] [(0, l4), (0, x5)] (st_Bd_passingTakers) rfl rfl ok_X_forwardOf rfl (Nat.le_of_ble_eq_true rfl) (Nat.le_of_ble_eq_true rfl) rfl (Nat.le_of_ble_eq_true rfl) (C_X_forwardOf hq) ?_
      show jG E _ 42 [(0, (2, ((2 : Nat) : Int))), (1, (0, x5)), (2, (0, x6)), (3, (1, l3)), (5, (0, l4))] [(0, v8), (0, l4), (0, x5)] h7 _ _
      refine jG.blk (st_Bd_passingTakers) 1 (pc1 := 43) (L1 := [(0, (2, ((2 : Nat) : Int))), (1, (0, x5)), (2, (0, x6)), (3, (1, l3)), (5, (0, l4))]) (st1 := [(0, jneg v8), (0, l4), (0, x5)]) (h1 := h7) rfl ?_
      obtain ⟨v9, hq, hv⟩ := Option.bind_eq_some_iff.mp hv
      refine jT.cSN (M1 := M_X_shifted) [(0, x5), (0, l4), (0, jneg v8)] [] (st_Bd_passingTakers) rfl rfl ok_X_shifted rfl (Nat.le_of_ble_eq_true rfl) (Nat.le_of_ble_eq_true rfl) rfl (Nat.le_of_ble_eq_true rfl) (C_X_shifted hq) ?_
      show jG E _ 46 [(0, (2, ((2 : Nat) : Int))), (1, (0, x5)), (2, (0, x6)), (3, (1, l3)), (5, (0, l4))] [(0, v9)] h7 _ _
      refine jG.blk (st_Bd_passingTakers) 3 (pc1 := 51) (L1 := [(6, (0, v9)), (0, (2, ((2 : Nat) : Int))), (1, (0, x5)), (2, (0, x6)), (3, (1, l3)), (5, (0, l4))]) (st1 := [(0, (-1)), (0, v9)]) (h1 := h7) rfl ?_
      refine jT.if2 (st_Bd_passingTakers) rfl (tgt := 90) (by decide) (fun hc => ?_) (fun hc => ?_)
      · have hc : v9 = (-1) := hc
        try rw [if_pos hc] at hv
        refine jG.blk (st_Bd_passingTakers) 1 (pc1 := 93) (L1 := [(5, (0, jadd l4 2)), (6, (0, v9)), (0, (2, ((2 : Nat) : Int))), (1, (0, x5)), (2, (0, x6)), (3, (1, l3))]) (st1 := []) (h1 := h7) rfl ?_
        refine jT.goto (st_Bd_passingTakers) rfl (tgt := 26) (by decide) ?_
        refine jG.subp [2, 3, 4, 5, 0] (L1 := [(0, (2, ((2 : Nat) : Int))), (1, (0, x5)), (2, (0, x6)), (3, (1, l3)), (5, (0, jadd l4 2))]) rfl ?_
        exact ih _ _ _ _ hv
      · have hc : ¬ (v9 = (-1)) := hc
        try rw [if_neg hc] at hv
        refine jG.blk (st_Bd_passingTakers) 3 (pc1 := 60) (L1 := [(6, (0, v9)), (0, (2, ((2 : Nat) : Int))), (1, (0, x5)), (2, (0, x6)), (3, (1, l3)), (5, (0, l4))]) (st1 := [(0, v9), (2, ((3 : Nat) : Int))]) (h1 := h7) rfl ?_
        obtain ⟨hg, hv⟩ := jgd_some hv
        refine jT.iald (a := 3) (st_Bd_passingTakers) rfl rfl (by decide) hg.1 hg.2 ?_
        refine jG.blk (st_Bd_passingTakers) 3 (pc1 := 66) (L1 := [(6, (0, v9)), (0, (2, ((2 : Nat) : Int))), (1, (0, x5)), (2, (0, x6)), (3, (1, l3)), (5, (0, l4))]) (st1 := [(0, h7 2 1), (0, 1), (0, h7 3 v9.toNat)]) (h1 := h7) rfl ?_
        obtain ⟨v10, hq, hv⟩ := Option.bind_eq_some_iff.mp hv
        refine jT.cSN (M1 := M_X_pieceOf) [(0, 1), (0, h7 2 1)] [(0, h7 3 v9.toNat)] (st_Bd_passingTakers) rfl rfl ok_X_pieceOf rfl (Nat.le_of_ble_eq_true rfl) (Nat.le_of_ble_eq_true rfl) rfl (Nat.le_of_ble_eq_true rfl) (C_X_pieceOf hq) ?_
        show jG E _ 69 [(6, (0, v9)), (0, (2, ((2 : Nat) : Int))), (1, (0, x5)), (2, (0, x6)), (3, (1, l3)), (5, (0, l4))] [(0, v10), (0, h7 3 v9.toNat)] h7 _ _
        refine jT.if2 (st_Bd_passingTakers) rfl (tgt := 90) (by decide) (fun hc => ?_) (fun hc => ?_)
        · have hc : ¬ (h7 3 v9.toNat = v10) := hc
          try rw [if_neg hc] at hv
          refine jG.blk (st_Bd_passingTakers) 1 (pc1 := 93) (L1 := [(5, (0, jadd l4 2)), (6, (0, v9)), (0, (2, ((2 : Nat) : Int))), (1, (0, x5)), (2, (0, x6)), (3, (1, l3))]) (st1 := []) (h1 := h7) rfl ?_
          refine jT.goto (st_Bd_passingTakers) rfl (tgt := 26) (by decide) ?_
          refine jG.subp [2, 3, 4, 5, 0] (L1 := [(0, (2, ((2 : Nat) : Int))), (1, (0, x5)), (2, (0, x6)), (3, (1, l3)), (5, (0, jadd l4 2))]) rfl ?_
          exact ih _ _ _ _ hv
        · have hc : h7 3 v9.toNat = v10 := Decidable.not_not.mp hc
          try rw [if_pos hc] at hv
          refine jG.blk (st_Bd_passingTakers) 4 (pc1 := 77) (L1 := [(6, (0, v9)), (0, (2, ((2 : Nat) : Int))), (1, (0, x5)), (2, (0, x6)), (3, (1, l3)), (5, (0, l4))]) (st1 := [(0, x6), (0, x5), (0, v9), (2, ((2 : Nat) : Int))]) (h1 := h7) rfl ?_
          obtain ⟨v11, hq, hv⟩ := Option.bind_eq_some_iff.mp hv
          refine jT.cV (M1 := M_Bd_isSafeBehind) (2, ((2 : Nat) : Int)) [(0, v9), (0, x5), (0, x6)] [] (st_Bd_passingTakers) rfl rfl ok_Bd_isSafeBehind rfl (Or.inl ⟨rfl, _, _, _, rfl, rfl⟩) (Nat.le_of_ble_eq_true rfl) (Nat.le_of_ble_eq_true rfl) rfl (Nat.le_of_ble_eq_true rfl) (C_Bd_isSafeBehind hq) ?_
          show jG E _ 80 [(6, (0, v9)), (0, (2, ((2 : Nat) : Int))), (1, (0, x5)), (2, (0, x6)), (3, (1, l3)), (5, (0, l4))] [(0, v11.1)] v11.2 _ _
          refine jT.if1 (st_Bd_passingTakers) rfl (tgt := 90) (by decide) (fun hc => ?_) (fun hc => ?_)
          · have hc : v11.1 = 0 := hc
            try rw [if_pos hc] at hv
            refine jG.blk (st_Bd_passingTakers) 1 (pc1 := 93) (L1 := [(5, (0, jadd l4 2)), (6, (0, v9)), (0, (2, ((2 : Nat) : Int))), (1, (0, x5)), (2, (0, x6)), (3, (1, l3))]) (st1 := []) (h1 := v11.2) rfl ?_
            refine jT.goto (st_Bd_passingTakers) rfl (tgt := 26) (by decide) ?_
            refine jG.subp [2, 3, 4, 5, 0] (L1 := [(0, (2, ((2 : Nat) : Int))), (1, (0, x5)), (2, (0, x6)), (3, (1, l3)), (5, (0, jadd l4 2))]) rfl ?_
            exact ih _ _ _ _ hv
          · have hc : ¬ (v11.1 = 0) := hc
            try rw [if_neg hc] at hv
            refine jG.blk (st_Bd_passingTakers) 7 (pc1 := 93) (L1 := [(5, (0, jadd l4 2)), (3, (1, jlor l3 (jlshl 1 v9))), (6, (0, v9)), (0, (2, ((2 : Nat) : Int))), (1, (0, x5)), (2, (0, x6))]) (st1 := []) (h1 := v11.2) rfl ?_
            refine jT.goto (st_Bd_passingTakers) rfl (tgt := 26) (by decide) ?_
            refine jG.subp [3, 4, 5, 1, 0] (L1 := [(0, (2, ((2 : Nat) : Int))), (1, (0, x5)), (2, (0, x6)), (3, (1, jlor l3 (jlshl 1 v9))), (5, (0, jadd l4 2))]) rfl ?_
            exact ih _ _ _ _ hv
set_option maxRecDepth 100000 in
set_option maxHeartbeats 4000000 in
theorem C_Bd_passingTakers {E : jE} {h : jH} {res : Int × jH} (hv : f_Bd_passingTakers h = some res) : jC E M_Bd_passingTakers [(2, ((2 : Nat) : Int))] h (some (1, res.1)) res.2 := by
  refine jC.of ok_Bd_passingTakers.1 (by rw [jlg]; exact Nat.le_of_ble_eq_true rfl) ?_
  show jG E _ 0 [(0, (2, ((2 : Nat) : Int)))] [] h _ _
  unfold f_Bd_passingTakers at hv
  refine jG.blk (st_Bd_passingTakers) 1 (pc1 := 1) (L1 := [(0, (2, ((2 : Nat) : Int)))]) (st1 := [(2, ((2 : Nat) : Int))]) (h1 := h) rfl ?_
  obtain ⟨v1, hq, hv⟩ := Option.bind_eq_some_iff.mp hv
  refine jT.cV (M1 := M_Bd_passedSquare) (2, ((2 : Nat) : Int)) [] [] (st_Bd_passingTakers) rfl rfl ok_Bd_passedSquare rfl (Or.inl ⟨rfl, _, _, _, rfl, rfl⟩) (Nat.le_of_ble_eq_true rfl) (Nat.le_of_ble_eq_true rfl) rfl (Nat.le_of_ble_eq_true rfl) (C_Bd_passedSquare hq) ?_
  show jG E _ 4 [(0, (2, ((2 : Nat) : Int)))] [(0, v1)] h _ _
  refine jG.blk (st_Bd_passingTakers) 3 (pc1 := 7) (L1 := [(1, (0, v1)), (0, (2, ((2 : Nat) : Int)))]) (st1 := [(0, (-1)), (0, v1)]) (h1 := h) rfl ?_
  refine jT.if2 (st_Bd_passingTakers) rfl (tgt := 12) (by decide) (fun hc => ?_) (fun hc => ?_)
  · have hc : ¬ (v1 = (-1)) := hc
    try rw [if_neg hc] at hv
    refine jG.blk (st_Bd_passingTakers) 3 (pc1 := 17) (L1 := [(1, (0, v1)), (0, (2, ((2 : Nat) : Int)))]) (st1 := [(0, h 2 1), (2, ((2 : Nat) : Int))]) (h1 := h) rfl ?_
    obtain ⟨v2, hq, hv⟩ := Option.bind_eq_some_iff.mp hv
    refine jT.cV (M1 := M_Bd_kingSquare) (2, ((2 : Nat) : Int)) [(0, h 2 1)] [] (st_Bd_passingTakers) rfl rfl ok_Bd_kingSquare rfl (Or.inl ⟨rfl, _, _, _, rfl, rfl⟩) (Nat.le_of_ble_eq_true rfl) (Nat.le_of_ble_eq_true rfl) rfl (Nat.le_of_ble_eq_true rfl) (C_Bd_kingSquare (by decide) hq) ?_
    show jG E _ 20 [(1, (0, v1)), (0, (2, ((2 : Nat) : Int)))] [(0, v2)] h _ _
    refine jG.blk (st_Bd_passingTakers) 5 (pc1 := 26) (L1 := [(5, (0, (-1))), (3, (1, 0)), (2, (0, v2)), (1, (0, v1)), (0, (2, ((2 : Nat) : Int)))]) (st1 := []) (h1 := h) rfl ?_
    refine jG.subp [4, 3, 2, 1, 0] (L1 := [(0, (2, ((2 : Nat) : Int))), (1, (0, v1)), (2, (0, v2)), (3, (1, 0)), (5, (0, (-1)))]) rfl ?_
    refine f_Bd_passingTakers_lp26_ok E (fun l12 l13 h14 res hv => ?_) 1000 _ _ _ _ hv
    · refine jG.blk (st_Bd_passingTakers) 1 (pc1 := 97) (L1 := [(3, (1, l12))]) (st1 := [(1, l12)]) (h1 := h14) rfl ?_
      cases hv
      exact jT.lret (st_Bd_passingTakers) rfl trivial
  · have hc : v1 = (-1) := Decidable.not_not.mp hc
    try rw [if_pos hc] at hv
    refine jG.blk (st_Bd_passingTakers) 1 (pc1 := 11) (L1 := [(1, (0, v1)), (0, (2, ((2 : Nat) : Int)))]) (st1 := [(1, 0)]) (h1 := h) rfl ?_
    cases hv
    exact jT.lret (st_Bd_passingTakers) rfl trivial
def f_Bd_mayPawnTake (h : jH) (a1 : Int) : Option (Int) := jgd (0 ≤ a1 ∧ a1 < 64) ((f_X_sideOf h (h 3 a1.toNat)).bind fun v1 => (f_X_otherSide h (h 2 1)).bind fun v2 => if v1 = v2 then some 1 else (f_Bd_passedSquare h).bind fun v3 => some (if a1 = v3 then 1 else 0))
set_option maxRecDepth 100000 in
set_option maxHeartbeats 4000000 in
theorem C_Bd_mayPawnTake {E : jE} {h : jH} {a1 : Int} {res : Int} (hv : f_Bd_mayPawnTake h a1 = some res) : jC E M_Bd_mayPawnTake [(2, ((2 : Nat) : Int)), (0, a1)] h (some (0, res)) h := by
  refine jC.of ok_Bd_mayPawnTake.1 (by rw [jlg]; exact Nat.le_of_ble_eq_true rfl) ?_
  show jG E _ 0 [(0, (2, ((2 : Nat) : Int))), (1, (0, a1))] [] h _ _
  unfold f_Bd_mayPawnTake at hv
  refine jG.blk (st_Bd_mayPawnTake) 3 (pc1 := 5) (L1 := [(0, (2, ((2 : Nat) : Int))), (1, (0, a1))]) (st1 := [(0, a1), (2, ((3 : Nat) : Int))]) (h1 := h) rfl ?_
  obtain ⟨hg, hv⟩ := jgd_some hv
  refine jT.iald (a := 3) (st_Bd_mayPawnTake) rfl rfl (by decide) hg.1 hg.2 ?_
  obtain ⟨v1, hq, hv⟩ := Option.bind_eq_some_iff.mp hv
  refine jT.cSN (M1 := M_X_sideOf) [(0, h 3 a1.toNat)] [] (st_Bd_mayPawnTake) rfl rfl ok_X_sideOf rfl (Nat.le_of_ble_eq_true rfl) (Nat.le_of_ble_eq_true rfl) rfl (Nat.le_of_ble_eq_true rfl) (C_X_sideOf hq) ?_
  show jG E _ 9 [(0, (2, ((2 : Nat) : Int))), (1, (0, a1))] [(0, v1)] h _ _
  refine jG.blk (st_Bd_mayPawnTake) 2 (pc1 := 13) (L1 := [(0, (2, ((2 : Nat) : Int))), (1, (0, a1))]) (st1 := [(0, h 2 1), (0, v1)]) (h1 := h) rfl ?_
  obtain ⟨v2, hq, hv⟩ := Option.bind_eq_some_iff.mp hv
  refine jT.cSN (M1 := M_X_otherSide) [(0, h 2 1)] [(0, v1)] (st_Bd_mayPawnTake) rfl rfl ok_X_otherSide rfl (Nat.le_of_ble_eq_true rfl) (Nat.le_of_ble_eq_true rfl) rfl (Nat.le_of_ble_eq_true rfl) (C_X_otherSide hq) ?_
  show jG E _ 16 [(0, (2, ((2 : Nat) : Int))), (1, (0, a1))] [(0, v2), (0, v1)] h _ _
  refine jT.if2 (st_Bd_mayPawnTake) rfl (tgt := 27) (by decide) (fun hc => ?_) (fun hc => ?_)
  · have hc : v1 = v2 := hc
    try rw [if_pos hc] at hv
    refine jG.blk (st_Bd_mayPawnTake) 1 (pc1 := 28) (L1 := [(0, (2, ((2 : Nat) : Int))), (1, (0, a1))]) (st1 := [(0, 1)]) (h1 := h) rfl ?_
    refine jT.goto (st_Bd_mayPawnTake) rfl (tgt := 32) (by decide) ?_
    cases hv
    exact jT.iret (st_Bd_mayPawnTake) rfl (Or.inr rfl)
  · have hc : ¬ (v1 = v2) := hc
    try rw [if_neg hc] at hv
    refine jG.blk (st_Bd_mayPawnTake) 2 (pc1 := 21) (L1 := [(0, (2, ((2 : Nat) : Int))), (1, (0, a1))]) (st1 := [(2, ((2 : Nat) : Int)), (0, a1)]) (h1 := h) rfl ?_
    obtain ⟨v3, hq, hv⟩ := Option.bind_eq_some_iff.mp hv
    refine jT.cV (M1 := M_Bd_passedSquare) (2, ((2 : Nat) : Int)) [] [(0, a1)] (st_Bd_mayPawnTake) rfl rfl ok_Bd_passedSquare rfl (Or.inl ⟨rfl, _, _, _, rfl, rfl⟩) (Nat.le_of_ble_eq_true rfl) (Nat.le_of_ble_eq_true rfl) rfl (Nat.le_of_ble_eq_true rfl) (C_Bd_passedSquare hq) ?_
    show jG E _ 24 [(0, (2, ((2 : Nat) : Int))), (1, (0, a1))] [(0, v3), (0, a1)] h _ _
    refine jT.if2 (st_Bd_mayPawnTake) rfl (tgt := 31) (by decide) (fun hc => ?_) (fun hc => ?_)
    · have hc : ¬ (a1 = v3) := hc
      try rw [if_neg hc] at hv
      refine jG.blk (st_Bd_mayPawnTake) 1 (pc1 := 32) (L1 := [(0, (2, ((2 : Nat) : Int))), (1, (0, a1))]) (st1 := [(0, 0)]) (h1 := h) rfl ?_
      cases hv
      exact jT.iret (st_Bd_mayPawnTake) rfl (Or.inl rfl)
    · have hc : a1 = v3 := Decidable.not_not.mp hc
      try rw [if_pos hc] at hv
      refine jG.blk (st_Bd_mayPawnTake) 1 (pc1 := 28) (L1 := [(0, (2, ((2 : Nat) : Int))), (1, (0, a1))]) (st1 := [(0, 1)]) (h1 := h) rfl ?_
      refine jT.goto (st_Bd_mayPawnTake) rfl (tgt := 32) (by decide) ?_
      cases hv
      exact jT.iret (st_Bd_mayPawnTake) rfl (Or.inr rfl)
def f_Bd_mayCastle_lp44 (h : jH) (x5 : Int) (x6 : Int) (k : Int → Option (Int)) : Nat → Int → Option (Int)
  | 0, _ => none
  | n + 1, l4 => if (if x5 < x6 then x6 else x5) ≤ l4 then k l4 else jgd (0 ≤ l4 ∧ l4 < 64) (if h 3 l4.toNat = 0 then f_Bd_mayCastle_lp44 h x5 x6 k n (jadd l4 1) else some 0)
def f_Bd_mayCastle_j97_75 (rc : Int → Option (Int)) (k : Int → Option (Int)) (h : jH) (x9 : Int) (x10 : Int) (l11 : Int) (s12 : Int) : Option (Int) := (f_X_otherSide h (h 2 1)).bind fun v13 => (f_Bd_attacksOn 2 h s12 v13).bind fun v14 => if jcmp v14 0 = 0 then rc (jadd l11 1) else some 0
def f_Bd_mayCastle_lp75 (h : jH) (x9 : Int) (x10 : Int) (k : Int → Option (Int)) : Nat → Int → Option (Int)
  | 0, _ => none
  | n + 1, l8 => if 2 < l8 then k l8 else f_Bd_mayCastle_j97_75 (f_Bd_mayCastle_lp75 h x9 x10 k n) k h x9 x10 l8 (if x10 ≤ x9 then jsub x9 l8 else jadd x9 l8)
def f_Bd_mayCastle (h : jH) (a1 : Int) : Option (Int) := (f_X_rightOf h (h 2 1) a1).bind fun v1 => if jand (h 2 2) v1 = 0 then some 0 else (f_X_kingHome h (h 2 1)).bind fun v2 => (f_X_rookHome h (h 2 1) a1).bind fun v3 => f_Bd_mayCastle_lp44 h v2 v3 (fun l7 => f_Bd_mayCastle_lp75 h v2 v3 (fun l15 => some 1) 1000 0) 1000 (jadd (if v3 < v2 then v3 else v2) 1)
set_option maxRecDepth 100000 in
set_option maxHeartbeats 4000000 in
theorem f_Bd_mayCastle_lp44_ok (E : jE) {h : jH} {x5 : Int} {x6 : Int} {k : Int → Option (Int)} (hk : ∀ (l4 : Int) (res : Int), k l4 = some res → jG E M_Bd_mayCastle 72 [(0, (2, ((2 : Nat) : Int))), (2, (0, x5)), (3, (0, x6))] [] h (some (0, res)) h) : ∀ (n : Nat) (l4 : Int) (res : Int), f_Bd_mayCastle_lp44 h x5 x6 k n l4 = some res → jG E M_Bd_mayCastle 44 [(0, (2, ((2 : Nat) : Int))), (2, (0, x5)), (3, (0, x6)), (4, (0, l4))] [] h (some (0, res)) h := by
  intro n
  induction n with
  | zero => intro l4 res hv; cases hv
  | succ n ih =>
    intro l4 res hv
    rw [f_Bd_mayCastle_lp44] at hv
    refine jG.blk (st_Bd_mayCastle) 3 (pc1 := 48) (L1 := [(0, (2, ((2 : Nat) : Int))), (2, (0, x5)), (3, (0, x6)), (4, (0, l4))]) (st1 := [(0, x6), (0, x5), (0, l4)]) (h1 := h) rfl ?_
    refine jT.mmax (a := x5) (b := x6) (rest := [(0, l4)]) (st_Bd_mayCastle) rfl (Nat.le_of_ble_eq_true rfl) (Nat.le_of_ble_eq_true rfl) (Nat.le_of_ble_eq_true rfl) ?_
    refine jT.if2 (st_Bd_mayCastle) rfl (tgt := 72) (by decide) (fun hc => ?_) (fun hc => ?_)
    · have hc : (if x5 < x6 then x6 else x5) ≤ l4 := hc
      try rw [if_pos hc] at hv
      refine jG.subp [0, 1, 2] (L1 := [(0, (2, ((2 : Nat) : Int))), (2, (0, x5)), (3, (0, x6))]) rfl ?_
      exact hk _ _ hv
    · have hc : ¬ ((if x5 < x6 then x6 else x5) ≤ l4) := hc
      try rw [if_neg hc] at hv
      refine jG.blk (st_Bd_mayCastle) 3 (pc1 := 60) (L1 := [(0, (2, ((2 : Nat) : Int))), (2, (0, x5)), (3, (0, x6)), (4, (0, l4))]) (st1 := [(0, l4), (2, ((3 : Nat) : Int))]) (h1 := h) rfl ?_
      obtain ⟨hg, hv⟩ := jgd_some hv
      refine jT.iald (a := 3) (st_Bd_mayCastle) rfl rfl (by decide) hg.1 hg.2 ?_
      refine jT.if1 (st_Bd_mayCastle) rfl (tgt := 66) (by decide) (fun hc => ?_) (fun hc => ?_)
      · have hc : h 3 l4.toNat = 0 := hc
        try rw [if_pos hc] at hv
        refine jG.blk (st_Bd_mayCastle) 1 (pc1 := 69) (L1 := [(4, (0, jadd l4 1)), (0, (2, ((2 : Nat) : Int))), (2, (0, x5)), (3, (0, x6))]) (st1 := []) (h1 := h) rfl ?_
        refine jT.goto (st_Bd_mayCastle) rfl (tgt := 44) (by decide) ?_
        refine jG.subp [1, 2, 3, 0] (L1 := [(0, (2, ((2 : Nat) : Int))), (2, (0, x5)), (3, (0, x6)), (4, (0, jadd l4 1))]) rfl ?_
        exact ih _ _ hv
      · have hc : ¬ (h 3 l4.toNat = 0) := hc
        try rw [if_neg hc] at hv
        refine jG.blk (st_Bd_mayCastle) 1 (pc1 := 65) (L1 := [(0, (2, ((2 : Nat) : Int))), (2, (0, x5)), (3, (0, x6)), (4, (0, l4))]) (st1 := [(0, 0)]) (h1 := h) rfl ?_
        cases hv
        exact jT.iret (st_Bd_mayCastle) rfl (Or.inl rfl)
set_option maxRecDepth 100000 in
set_option maxHeartbeats 4000000 in
theorem f_Bd_mayCastle_j97_75_ok (E : jE) {rc : Int → Option (Int)} {k : Int → Option (Int)} {h : jH} {x9 : Int} {x10 : Int} (hrc : ∀ (l8 : Int) (res : Int), rc l8 = some res → jG E M_Bd_mayCastle 75 [(0, (2, ((2 : Nat) : Int))), (2, (0, x9)), (3, (0, x10)), (4, (0, l8))] [] h (some (0, res)) h) (hk : ∀ (l8 : Int) (res : Int), k l8 = some res → jG E M_Bd_mayCastle 125 [] [] h (some (0, res)) h) {l11 : Int} {s12 : Int} {res : Int} (hv : f_Bd_mayCastle_j97_75 rc k h x9 x10 l11 s12 = some res) : jG E M_Bd_mayCastle 97 [(0, (2, ((2 : Nat) : Int))), (2, (0, x9)), (3, (0, x10)), (4, (0, l11))] [(0, s12)] h (some (0, res)) h := by
  unfold f_Bd_mayCastle_j97_75 at hv
  refine jG.blk (st_Bd_mayCastle) 5 (pc1 := 106) (L1 := [(5, (0, s12)), (0, (2, ((2 : Nat) : Int))), (2, (0, x9)), (3, (0, x10)), (4, (0, l11))]) (st1 := [(0, h 2 1), (0, s12), (2, ((2 : Nat) : Int))]) (h1 := h) rfl ?_
  obtain ⟨v13, hq, hv⟩ := Option.bind_eq_some_iff.mp hv
  refine jT.cSN (M1 := M_X_otherSide) [(0, h 2 1)] [(0, s12), (2, ((2 : Nat) : Int))] (st_Bd_mayCastle) rfl rfl ok_X_otherSide rfl (Nat.le_of_ble_eq_true rfl) (Nat.le_of_ble_eq_true rfl) rfl (Nat.le_of_ble_eq_true rfl) (C_X_otherSide hq) ?_
  show jG E _ 109 [(5, (0, s12)), (0, (2, ((2 : Nat) : Int))), (2, (0, x9)), (3, (0, x10)), (4, (0, l11))] [(0, v13), (0, s12), (2, ((2 : Nat) : Int))] h _ _
  obtain ⟨v14, hq, hv⟩ := Option.bind_eq_some_iff.mp hv
  refine jT.cV (M1 := M_Bd_attacksOn) (2, ((2 : Nat) : Int)) [(0, s12), (0, v13)] [] (st_Bd_mayCastle) rfl rfl ok_Bd_attacksOn rfl (Or.inl ⟨rfl, _, _, _, rfl, rfl⟩) (Nat.le_of_ble_eq_true rfl) (Nat.le_of_ble_eq_true rfl) rfl (Nat.le_of_ble_eq_true rfl) (C_Bd_attacksOn (by decide) hq) ?_
  show jG E _ 112 [(5, (0, s12)), (0, (2, ((2 : Nat) : Int))), (2, (0, x9)), (3, (0, x10)), (4, (0, l11))] [(1, v14)] h _ _
  refine jG.blk (st_Bd_mayCastle) 2 (pc1 := 114) (L1 := [(5, (0, s12)), (0, (2, ((2 : Nat) : Int))), (2, (0, x9)), (3, (0, x10)), (4, (0, l11))]) (st1 := [(0, jcmp v14 0)]) (h1 := h) rfl ?_
  refine jT.if1 (st_Bd_mayCastle) rfl (tgt := 119) (by decide) (fun hc => ?_) (fun hc => ?_)
  · have hc : jcmp v14 0 = 0 := hc
    try rw [if_pos hc] at hv
    refine jG.blk (st_Bd_mayCastle) 1 (pc1 := 122) (L1 := [(4, (0, jadd l11 1)), (5, (0, s12)), (0, (2, ((2 : Nat) : Int))), (2, (0, x9)), (3, (0, x10))]) (st1 := []) (h1 := h) rfl ?_
    refine jT.goto (st_Bd_mayCastle) rfl (tgt := 75) (by decide) ?_
    refine jG.subp [2, 3, 4, 0] (L1 := [(0, (2, ((2 : Nat) : Int))), (2, (0, x9)), (3, (0, x10)), (4, (0, jadd l11 1))]) rfl ?_
    exact hrc _ _ hv
  · have hc : ¬ (jcmp v14 0 = 0) := hc
    try rw [if_neg hc] at hv
    refine jG.blk (st_Bd_mayCastle) 1 (pc1 := 118) (L1 := [(5, (0, s12)), (0, (2, ((2 : Nat) : Int))), (2, (0, x9)), (3, (0, x10)), (4, (0, l11))]) (st1 := [(0, 0)]) (h1 := h) rfl ?_
    cases hv
    exact jT.iret (st_Bd_mayCastle) rfl (Or.inl rfl)
set_option maxRecDepth 100000 in
set_option maxHeartbeats 4000000 in
theorem f_Bd_mayCastle_lp75_ok (E : jE) {h : jH} {x9 : Int} {x10 : Int} {k : Int → Option (Int)} (hk : ∀ (l8 : Int) (res : Int), k l8 = some res → jG E M_Bd_mayCastle 125 [] [] h (some (0, res)) h) : ∀ (n : Nat) (l8 : Int) (res : Int), f_Bd_mayCastle_lp75 h x9 x10 k n l8 = some res → jG E M_Bd_mayCastle 75 [(0, (2, ((2 : Nat) : Int))), (2, (0, x9)), (3, (0, x10)), (4, (0, l8))] [] h (some (0, res)) h := by
  intro n
  induction n with
  | zero => intro l8 res hv; cases hv
  | succ n ih =>
    intro l8 res hv
    rw [f_Bd_mayCastle_lp75] at hv
    refine jG.blk (st_Bd_mayCastle) 2 (pc1 := 78) (L1 := [(0, (2, ((2 : Nat) : Int))), (2, (0, x9)), (3, (0, x10)), (4, (0, l8))]) (st1 := [(0, 2), (0, l8)]) (h1 := h) rfl ?_
    refine jT.if2 (st_Bd_mayCastle) rfl (tgt := 125) (by decide) (fun hc => ?_) (fun hc => ?_)
    · have hc : 2 < l8 := hc
      try rw [if_pos hc] at hv
      refine jG.subp [] (L1 := []) rfl ?_
      exact hk _ _ hv
    · have hc : ¬ (2 < l8) := hc
      try rw [if_neg hc] at hv
      refine jG.blk (st_Bd_mayCastle) 2 (pc1 := 83) (L1 := [(0, (2, ((2 : Nat) : Int))), (2, (0, x9)), (3, (0, x10)), (4, (0, l8))]) (st1 := [(0, x9), (0, x10)]) (h1 := h) rfl ?_
      refine jT.if2 (st_Bd_mayCastle) rfl (tgt := 93) (by decide) (fun hc => ?_) (fun hc => ?_)
      · have hc : x10 ≤ x9 := hc
        try rw [if_pos hc] at hv
        refine jG.blk (st_Bd_mayCastle) 3 (pc1 := 97) (L1 := [(0, (2, ((2 : Nat) : Int))), (2, (0, x9)), (3, (0, x10)), (4, (0, l8))]) (st1 := [(0, jsub x9 l8)]) (h1 := h) rfl ?_
        exact f_Bd_mayCastle_j97_75_ok E ih hk hv
      · have hc : ¬ (x10 ≤ x9) := hc
        try rw [if_neg hc] at hv
        refine jG.blk (st_Bd_mayCastle) 3 (pc1 := 90) (L1 := [(0, (2, ((2 : Nat) : Int))), (2, (0, x9)), (3, (0, x10)), (4, (0, l8))]) (st1 := [(0, jadd x9 l8)]) (h1 := h) rfl ?_
        refine jT.goto (st_Bd_mayCastle) rfl (tgt := 97) (by decide) ?_
        exact f_Bd_mayCastle_j97_75_ok E ih hk hv
set_option maxRecDepth 100000 in
set_option maxHeartbeats 4000000 in
theorem C_Bd_mayCastle {E : jE} {h : jH} {a1 : Int} {res : Int} (hv : f_Bd_mayCastle h a1 = some res) : jC E M_Bd_mayCastle [(2, ((2 : Nat) : Int)), (0, a1)] h (some (0, res)) h := by
  refine jC.of ok_Bd_mayCastle.1 (by rw [jlg]; exact Nat.le_of_ble_eq_true rfl) ?_
  show jG E _ 0 [(0, (2, ((2 : Nat) : Int))), (1, (0, a1))] [] h _ _
  unfold f_Bd_mayCastle at hv
  refine jG.blk (st_Bd_mayCastle) 5 (pc1 := 9) (L1 := [(0, (2, ((2 : Nat) : Int))), (1, (0, a1))]) (st1 := [(0, a1), (0, h 2 1), (0, h 2 2)]) (h1 := h) rfl ?_
  obtain ⟨v1, hq, hv⟩ := Option.bind_eq_some_iff.mp hv
  refine jT.cSN (M1 := M_X_rightOf) [(0, h 2 1), (0, a1)] [(0, h 2 2)] (st_Bd_mayCastle) rfl rfl ok_X_rightOf rfl (Nat.le_of_ble_eq_true rfl) (Nat.le_of_ble_eq_true rfl) rfl (Nat.le_of_ble_eq_true rfl) (C_X_rightOf hq) ?_
  show jG E _ 12 [(0, (2, ((2 : Nat) : Int))), (1, (0, a1))] [(0, v1), (0, h 2 2)] h _ _
  refine jG.blk (st_Bd_mayCastle) 1 (pc1 := 13) (L1 := [(0, (2, ((2 : Nat) : Int))), (1, (0, a1))]) (st1 := [(0, jand (h 2 2) v1)]) (h1 := h) rfl ?_
  refine jT.if1 (st_Bd_mayCastle) rfl (tgt := 18) (by decide) (fun hc => ?_) (fun hc => ?_)
  · have hc : ¬ (jand (h 2 2) v1 = 0) := hc
    try rw [if_neg hc] at hv
    refine jG.blk (st_Bd_mayCastle) 2 (pc1 := 22) (L1 := [(0, (2, ((2 : Nat) : Int))), (1, (0, a1))]) (st1 := [(0, h 2 1)]) (h1 := h) rfl ?_
    obtain ⟨v2, hq, hv⟩ := Option.bind_eq_some_iff.mp hv
    refine jT.cSN (M1 := M_X_kingHome) [(0, h 2 1)] [] (st_Bd_mayCastle) rfl rfl ok_X_kingHome rfl (Nat.le_of_ble_eq_true rfl) (Nat.le_of_ble_eq_true rfl) rfl (Nat.le_of_ble_eq_true rfl) (C_X_kingHome hq) ?_
    show jG E _ 25 [(0, (2, ((2 : Nat) : Int))), (1, (0, a1))] [(0, v2)] h _ _
    refine jG.blk (st_Bd_mayCastle) 4 (pc1 := 31) (L1 := [(2, (0, v2)), (0, (2, ((2 : Nat) : Int))), (1, (0, a1))]) (st1 := [(0, a1), (0, h 2 1)]) (h1 := h) rfl ?_
    obtain ⟨v3, hq, hv⟩ := Option.bind_eq_some_iff.mp hv
    refine jT.cSN (M1 := M_X_rookHome) [(0, h 2 1), (0, a1)] [] (st_Bd_mayCastle) rfl rfl ok_X_rookHome rfl (Nat.le_of_ble_eq_true rfl) (Nat.le_of_ble_eq_true rfl) rfl (Nat.le_of_ble_eq_true rfl) (C_X_rookHome hq) ?_
    show jG E _ 34 [(2, (0, v2)), (0, (2, ((2 : Nat) : Int))), (1, (0, a1))] [(0, v3)] h _ _
    refine jG.blk (st_Bd_mayCastle) 3 (pc1 := 37) (L1 := [(3, (0, v3)), (2, (0, v2)), (0, (2, ((2 : Nat) : Int))), (1, (0, a1))]) (st1 := [(0, v3), (0, v2)]) (h1 := h) rfl ?_
    refine jT.mmin (a := v2) (b := v3) (rest := []) (st_Bd_mayCastle) rfl (Nat.le_of_ble_eq_true rfl) (Nat.le_of_ble_eq_true rfl) (Nat.le_of_ble_eq_true rfl) ?_
    refine jG.blk (st_Bd_mayCastle) 3 (pc1 := 44) (L1 := [(4, (0, jadd (if v3 < v2 then v3 else v2) 1)), (3, (0, v3)), (2, (0, v2)), (0, (2, ((2 : Nat) : Int))), (1, (0, a1))]) (st1 := []) (h1 := h) rfl ?_
    refine jG.subp [3, 2, 1, 0] (L1 := [(0, (2, ((2 : Nat) : Int))), (2, (0, v2)), (3, (0, v3)), (4, (0, jadd (if v3 < v2 then v3 else v2) 1))]) rfl ?_
    refine f_Bd_mayCastle_lp44_ok E (fun l7 res hv => ?_) 1000 _ _ hv
    · refine jG.blk (st_Bd_mayCastle) 2 (pc1 := 75) (L1 := [(4, (0, 0)), (0, (2, ((2 : Nat) : Int))), (2, (0, v2)), (3, (0, v3))]) (st1 := []) (h1 := h) rfl ?_
      refine jG.subp [1, 2, 3, 0] (L1 := [(0, (2, ((2 : Nat) : Int))), (2, (0, v2)), (3, (0, v3)), (4, (0, 0))]) rfl ?_
      refine f_Bd_mayCastle_lp75_ok E (fun l15 res hv => ?_) 1000 _ _ hv
      · refine jG.blk (st_Bd_mayCastle) 1 (pc1 := 126) (L1 := []) (st1 := [(0, 1)]) (h1 := h) rfl ?_
        cases hv
        exact jT.iret (st_Bd_mayCastle) rfl (Or.inr rfl)
  · have hc : jand (h 2 2) v1 = 0 := Decidable.not_not.mp hc
    try rw [if_pos hc] at hv
    refine jG.blk (st_Bd_mayCastle) 1 (pc1 := 17) (L1 := [(0, (2, ((2 : Nat) : Int))), (1, (0, a1))]) (st1 := [(0, 0)]) (h1 := h) rfl ?_
    cases hv
    exact jT.iret (st_Bd_mayCastle) rfl (Or.inl rfl)
def f_Bd_isBare_j48_4 (rc : Int → Int → Option (Int)) (k : Int → Int → Option (Int)) (h : jH) (l4 : Int) (s5 : Int) : Option (Int) := rc (jadd s5 1) (jadd l4 1)
def f_Bd_isBare_lp4 (h : jH) (k : Int → Int → Option (Int)) : Nat → Int → Int → Option (Int)
  | 0, _, _ => none
  | n + 1, l1, l2 => if 64 ≤ l2 then k l1 l2 else jgd (0 ≤ l2 ∧ l2 < 64) ((f_X_kindOf h (h 3 l2.toNat)).bind fun v3 => if v3 = 1 then some 0 else if v3 = 4 then some 0 else if v3 = 5 then some 0 else if v3 = 2 then f_Bd_isBare_j48_4 (f_Bd_isBare_lp4 h k n) k h l2 l1 else if v3 = 3 then f_Bd_isBare_j48_4 (f_Bd_isBare_lp4 h k n) k h l2 l1 else f_Bd_isBare_lp4 h k n (jadd l1 0) (jadd l2 1))
def f_Bd_isBare (h : jH) : Option (Int) := f_Bd_isBare_lp4 h (fun l6 l7 => some (if 1 < l6 then 0 else 1)) 1000 0 0
set_option maxRecDepth 100000 in
set_option maxHeartbeats 4000000 in
theorem f_Bd_isBare_j48_4_ok (E : jE) {rc : Int → Int → Option (Int)} {k : Int → Int → Option (Int)} {h : jH} (hrc : ∀ (l1 : Int) (l2 : Int) (res : Int), rc l1 l2 = some res → jG E M_Bd_isBare 4 [(0, (2, ((2 : Nat) : Int))), (1, (0, l1)), (2, (0, l2))] [] h (some (0, res)) h) (hk : ∀ (l1 : Int) (l2 : Int) (res : Int), k l1 l2 = some res → jG E M_Bd_isBare 61 [(1, (0, l1))] [] h (some (0, res)) h) {l4 : Int} {s5 : Int} {res : Int} (hv : f_Bd_isBare_j48_4 rc k h l4 s5 = some res) : jG E M_Bd_isBare 48 [(0, (2, ((2 : Nat) : Int))), (2, (0, l4))] [(0, s5)] h (some (0, res)) h := by
  unfold f_Bd_isBare_j48_4 at hv
  refine jG.blk (st_Bd_isBare) 1 (pc1 := 49) (L1 := [(0, (2, ((2 : Nat) : Int))), (2, (0, l4))]) (st1 := [(0, 1), (0, s5)]) (h1 := h) rfl ?_
  refine jT.goto (st_Bd_isBare) rfl (tgt := 53) (by decide) ?_
  refine jG.blk (st_Bd_isBare) 3 (pc1 := 58) (L1 := [(2, (0, jadd l4 1)), (1, (0, jadd s5 1)), (0, (2, ((2 : Nat) : Int)))]) (st1 := []) (h1 := h) rfl ?_
  refine jT.goto (st_Bd_isBare) rfl (tgt := 4) (by decide) ?_
  refine jG.subp [2, 1, 0] (L1 := [(0, (2, ((2 : Nat) : Int))), (1, (0, jadd s5 1)), (2, (0, jadd l4 1))]) rfl ?_
  exact hrc _ _ _ hv
set_option maxRecDepth 100000 in
set_option maxHeartbeats 4000000 in
theorem f_Bd_isBare_lp4_ok (E : jE) {h : jH} {k : Int → Int → Option (Int)} (hk : ∀ (l1 : Int) (l2 : Int) (res : Int), k l1 l2 = some res → jG E M_Bd_isBare 61 [(1, (0, l1))] [] h (some (0, res)) h) : ∀ (n : Nat) (l1 : Int) (l2 : Int) (res : Int), f_Bd_isBare_lp4 h k n l1 l2 = some res → jG E M_Bd_isBare 4 [(0, (2, ((2 : Nat) : Int))), (1, (0, l1)), (2, (0, l2))] [] h (some (0, res)) h := by
  intro n
  induction n with
  | zero => intro l1 l2 res hv; cases hv
  | succ n ih =>
    intro l1 l2 res hv
    rw [f_Bd_isBare_lp4] at hv
    refine jG.blk (st_Bd_isBare) 2 (pc1 := 7) (L1 := [(0, (2, ((2 : Nat) : Int))), (1, (0, l1)), (2, (0, l2))]) (st1 := [(0, 64), (0, l2)]) (h1 := h) rfl ?_
    refine jT.if2 (st_Bd_isBare) rfl (tgt := 61) (by decide) (fun hc => ?_) (fun hc => ?_)
    · have hc : 64 ≤ l2 := hc
      try rw [if_pos hc] at hv
      refine jG.subp [1] (L1 := [(1, (0, l1))]) rfl ?_
      exact hk _ _ _ hv
    · have hc : ¬ (64 ≤ l2) := hc
      try rw [if_neg hc] at hv
      refine jG.blk (st_Bd_isBare) 3 (pc1 := 15) (L1 := [(0, (2, ((2 : Nat) : Int))), (1, (0, l1)), (2, (0, l2))]) (st1 := [(0, l2), (2, ((3 : Nat) : Int))]) (h1 := h) rfl ?_
      obtain ⟨hg, hv⟩ := jgd_some hv
      refine jT.iald (a := 3) (st_Bd_isBare) rfl rfl (by decide) hg.1 hg.2 ?_
      obtain ⟨v3, hq, hv⟩ := Option.bind_eq_some_iff.mp hv
      refine jT.cSN (M1 := M_X_kindOf) [(0, h 3 l2.toNat)] [] (st_Bd_isBare) rfl rfl ok_X_kindOf rfl (Nat.le_of_ble_eq_true rfl) (Nat.le_of_ble_eq_true rfl) rfl (Nat.le_of_ble_eq_true rfl) (C_X_kindOf hq) ?_
      show jG E _ 19 [(0, (2, ((2 : Nat) : Int))), (1, (0, l1)), (2, (0, l2))] [(0, v3)] h _ _
      refine jG.blk (st_Bd_isBare) 3 (pc1 := 22) (L1 := [(3, (0, v3)), (0, (2, ((2 : Nat) : Int))), (1, (0, l1)), (2, (0, l2))]) (st1 := [(0, 1), (0, v3)]) (h1 := h) rfl ?_
      refine jT.if2 (st_Bd_isBare) rfl (tgt := 35) (by decide) (fun hc => ?_) (fun hc => ?_)
      · have hc : v3 = 1 := hc
        try rw [if_pos hc] at hv
        refine jG.blk (st_Bd_isBare) 1 (pc1 := 36) (L1 := [(3, (0, v3)), (0, (2, ((2 : Nat) : Int))), (1, (0, l1)), (2, (0, l2))]) (st1 := [(0, 0)]) (h1 := h) rfl ?_
        cases hv
        exact jT.iret (st_Bd_isBare) rfl (Or.inl rfl)
      · have hc : ¬ (v3 = 1) := hc
        try rw [if_neg hc] at hv
        refine jG.blk (st_Bd_isBare) 2 (pc1 := 27) (L1 := [(3, (0, v3)), (0, (2, ((2 : Nat) : Int))), (1, (0, l1)), (2, (0, l2))]) (st1 := [(0, 4), (0, v3)]) (h1 := h) rfl ?_
        refine jT.if2 (st_Bd_isBare) rfl (tgt := 35) (by decide) (fun hc => ?_) (fun hc => ?_)
        · have hc : v3 = 4 := hc
          try rw [if_pos hc] at hv
          refine jG.blk (st_Bd_isBare) 1 (pc1 := 36) (L1 := [(3, (0, v3)), (0, (2, ((2 : Nat) : Int))), (1, (0, l1)), (2, (0, l2))]) (st1 := [(0, 0)]) (h1 := h) rfl ?_
          cases hv
          exact jT.iret (st_Bd_isBare) rfl (Or.inl rfl)
        · have hc : ¬ (v3 = 4) := hc
          try rw [if_neg hc] at hv
          refine jG.blk (st_Bd_isBare) 2 (pc1 := 32) (L1 := [(3, (0, v3)), (0, (2, ((2 : Nat) : Int))), (1, (0, l1)), (2, (0, l2))]) (st1 := [(0, 5), (0, v3)]) (h1 := h) rfl ?_
          refine jT.if2 (st_Bd_isBare) rfl (tgt := 37) (by decide) (fun hc => ?_) (fun hc => ?_)
          · have hc : ¬ (v3 = 5) := hc
            try rw [if_neg hc] at hv
            refine jG.blk (st_Bd_isBare) 3 (pc1 := 40) (L1 := [(3, (0, v3)), (0, (2, ((2 : Nat) : Int))), (1, (0, l1)), (2, (0, l2))]) (st1 := [(0, 2), (0, v3), (0, l1)]) (h1 := h) rfl ?_
            refine jT.if2 (st_Bd_isBare) rfl (tgt := 48) (by decide) (fun hc => ?_) (fun hc => ?_)
            · have hc : v3 = 2 := hc
              try rw [if_pos hc] at hv
              refine jG.subp [1, 3] (L1 := [(0, (2, ((2 : Nat) : Int))), (2, (0, l2))]) rfl ?_
              exact f_Bd_isBare_j48_4_ok E ih hk hv
            · have hc : ¬ (v3 = 2) := hc
              try rw [if_neg hc] at hv
              refine jG.blk (st_Bd_isBare) 2 (pc1 := 45) (L1 := [(3, (0, v3)), (0, (2, ((2 : Nat) : Int))), (1, (0, l1)), (2, (0, l2))]) (st1 := [(0, 3), (0, v3), (0, l1)]) (h1 := h) rfl ?_
              refine jT.if2 (st_Bd_isBare) rfl (tgt := 52) (by decide) (fun hc => ?_) (fun hc => ?_)
              · have hc : ¬ (v3 = 3) := hc
                try rw [if_neg hc] at hv
                refine jG.blk (st_Bd_isBare) 4 (pc1 := 58) (L1 := [(2, (0, jadd l2 1)), (1, (0, jadd l1 0)), (3, (0, v3)), (0, (2, ((2 : Nat) : Int)))]) (st1 := []) (h1 := h) rfl ?_
                refine jT.goto (st_Bd_isBare) rfl (tgt := 4) (by decide) ?_
                refine jG.subp [3, 1, 0] (L1 := [(0, (2, ((2 : Nat) : Int))), (1, (0, jadd l1 0)), (2, (0, jadd l2 1))]) rfl ?_
                exact ih _ _ _ hv
              · have hc : v3 = 3 := Decidable.not_not.mp hc
                try rw [if_pos hc] at hv
                refine jG.subp [1, 3] (L1 := [(0, (2, ((2 : Nat) : Int))), (2, (0, l2))]) rfl ?_
                exact f_Bd_isBare_j48_4_ok E ih hk hv
          · have hc : v3 = 5 := Decidable.not_not.mp hc
            try rw [if_pos hc] at hv
            refine jG.blk (st_Bd_isBare) 1 (pc1 := 36) (L1 := [(3, (0, v3)), (0, (2, ((2 : Nat) : Int))), (1, (0, l1)), (2, (0, l2))]) (st1 := [(0, 0)]) (h1 := h) rfl ?_
            cases hv
            exact jT.iret (st_Bd_isBare) rfl (Or.inl rfl)
set_option maxRecDepth 100000 in
set_option maxHeartbeats 4000000 in
theorem C_Bd_isBare {E : jE} {h : jH} {res : Int} (hv : f_Bd_isBare h = some res) : jC E M_Bd_isBare [(2, ((2 : Nat) : Int))] h (some (0, res)) h := by
  refine jC.of ok_Bd_isBare.1 (by rw [jlg]; exact Nat.le_of_ble_eq_true rfl) ?_
  show jG E _ 0 [(0, (2, ((2 : Nat) : Int)))] [] h _ _
  unfold f_Bd_isBare at hv
  refine jG.blk (st_Bd_isBare) 4 (pc1 := 4) (L1 := [(2, (0, 0)), (1, (0, 0)), (0, (2, ((2 : Nat) : Int)))]) (st1 := []) (h1 := h) rfl ?_
  refine jG.subp [2, 1, 0] (L1 := [(0, (2, ((2 : Nat) : Int))), (1, (0, 0)), (2, (0, 0))]) rfl ?_
  refine f_Bd_isBare_lp4_ok E (fun l6 l7 res hv => ?_) 1000 _ _ _ hv
  · refine jG.blk (st_Bd_isBare) 2 (pc1 := 63) (L1 := [(1, (0, l6))]) (st1 := [(0, 1), (0, l6)]) (h1 := h) rfl ?_
    refine jT.if2 (st_Bd_isBare) rfl (tgt := 70) (by decide) (fun hc => ?_) (fun hc => ?_)
    · have hc : 1 < l6 := hc
      try rw [if_pos hc] at hv
      refine jG.blk (st_Bd_isBare) 1 (pc1 := 71) (L1 := [(1, (0, l6))]) (st1 := [(0, 0)]) (h1 := h) rfl ?_
      cases hv
      exact jT.iret (st_Bd_isBare) rfl (Or.inl rfl)
    · have hc : ¬ (1 < l6) := hc
      try rw [if_neg hc] at hv
      refine jG.blk (st_Bd_isBare) 1 (pc1 := 67) (L1 := [(1, (0, l6))]) (st1 := [(0, 1)]) (h1 := h) rfl ?_
      refine jT.goto (st_Bd_isBare) rfl (tgt := 71) (by decide) ?_
      cases hv
      exact jT.iret (st_Bd_isBare) rfl (Or.inr rfl)
def f_Bd_isLike_lp2 (h : jH) (k : Int → Option (Int)) : Nat → Int → Option (Int)
  | 0, _ => none
  | n + 1, l1 => if 64 ≤ l1 then k l1 else jgd (0 ≤ l1 ∧ l1 < 64) (jgd (0 ≤ l1 ∧ l1 < 64) (if h 3 l1.toNat = h 21 l1.toNat then f_Bd_isLike_lp2 h k n (jadd l1 1) else some 0))
def f_Bd_isLike (h : jH) : Option (Int) := f_Bd_isLike_lp2 h (fun l2 => some (if h 2 1 = h 20 1 then if h 2 2 = h 20 2 then if h 2 3 = h 20 3 then if h 2 4 = h 20 4 then 1 else 0 else 0 else 0 else 0)) 1000 0
set_option maxRecDepth 100000 in
set_option maxHeartbeats 4000000 in
theorem f_Bd_isLike_lp2_ok (E : jE) {h : jH} {k : Int → Option (Int)} (hk : ∀ (l1 : Int) (res : Int), k l1 = some res → jG E M_Bd_isLike 31 [(0, (2, ((2 : Nat) : Int))), (1, (2, ((20 : Nat) : Int)))] [] h (some (0, res)) h) : ∀ (n : Nat) (l1 : Int) (res : Int), f_Bd_isLike_lp2 h k n l1 = some res → jG E M_Bd_isLike 2 [(0, (2, ((2 : Nat) : Int))), (1, (2, ((20 : Nat) : Int))), (2, (0, l1))] [] h (some (0, res)) h := by
  intro n
  induction n with
  | zero => intro l1 res hv; cases hv
  | succ n ih =>
    intro l1 res hv
    rw [f_Bd_isLike_lp2] at hv
    refine jG.blk (st_Bd_isLike) 2 (pc1 := 5) (L1 := [(0, (2, ((2 : Nat) : Int))), (1, (2, ((20 : Nat) : Int))), (2, (0, l1))]) (st1 := [(0, 64), (0, l1)]) (h1 := h) rfl ?_
    refine jT.if2 (st_Bd_isLike) rfl (tgt := 31) (by decide) (fun hc => ?_) (fun hc => ?_)
    · have hc : 64 ≤ l1 := hc
      try rw [if_pos hc] at hv
      refine jG.subp [0, 1] (L1 := [(0, (2, ((2 : Nat) : Int))), (1, (2, ((20 : Nat) : Int)))]) rfl ?_
      exact hk _ _ hv
    · have hc : ¬ (64 ≤ l1) := hc
      try rw [if_neg hc] at hv
      refine jG.blk (st_Bd_isLike) 3 (pc1 := 13) (L1 := [(0, (2, ((2 : Nat) : Int))), (1, (2, ((20 : Nat) : Int))), (2, (0, l1))]) (st1 := [(0, l1), (2, ((3 : Nat) : Int))]) (h1 := h) rfl ?_
      obtain ⟨hg, hv⟩ := jgd_some hv
      refine jT.iald (a := 3) (st_Bd_isLike) rfl rfl (by decide) hg.1 hg.2 ?_
      refine jG.blk (st_Bd_isLike) 3 (pc1 := 19) (L1 := [(0, (2, ((2 : Nat) : Int))), (1, (2, ((20 : Nat) : Int))), (2, (0, l1))]) (st1 := [(0, l1), (2, ((21 : Nat) : Int)), (0, h 3 l1.toNat)]) (h1 := h) rfl ?_
      obtain ⟨hg, hv⟩ := jgd_some hv
      refine jT.iald (a := 21) (st_Bd_isLike) rfl rfl (by decide) hg.1 hg.2 ?_
      refine jT.if2 (st_Bd_isLike) rfl (tgt := 25) (by decide) (fun hc => ?_) (fun hc => ?_)
      · have hc : h 3 l1.toNat = h 21 l1.toNat := hc
        try rw [if_pos hc] at hv
        refine jG.blk (st_Bd_isLike) 1 (pc1 := 28) (L1 := [(2, (0, jadd l1 1)), (0, (2, ((2 : Nat) : Int))), (1, (2, ((20 : Nat) : Int)))]) (st1 := []) (h1 := h) rfl ?_
        refine jT.goto (st_Bd_isLike) rfl (tgt := 2) (by decide) ?_
        refine jG.subp [1, 2, 0] (L1 := [(0, (2, ((2 : Nat) : Int))), (1, (2, ((20 : Nat) : Int))), (2, (0, jadd l1 1))]) rfl ?_
        exact ih _ _ hv
      · have hc : ¬ (h 3 l1.toNat = h 21 l1.toNat) := hc
        try rw [if_neg hc] at hv
        refine jG.blk (st_Bd_isLike) 1 (pc1 := 24) (L1 := [(0, (2, ((2 : Nat) : Int))), (1, (2, ((20 : Nat) : Int))), (2, (0, l1))]) (st1 := [(0, 0)]) (h1 := h) rfl ?_
        cases hv
        exact jT.iret (st_Bd_isLike) rfl (Or.inl rfl)
set_option maxRecDepth 100000 in
set_option maxHeartbeats 4000000 in
theorem C_Bd_isLike {E : jE} {h : jH} {res : Int} (hv : f_Bd_isLike h = some res) : jC E M_Bd_isLike [(2, ((2 : Nat) : Int)), (2, ((20 : Nat) : Int))] h (some (0, res)) h := by
  refine jC.of ok_Bd_isLike.1 (by rw [jlg]; exact Nat.le_of_ble_eq_true rfl) ?_
  show jG E _ 0 [(0, (2, ((2 : Nat) : Int))), (1, (2, ((20 : Nat) : Int)))] [] h _ _
  unfold f_Bd_isLike at hv
  refine jG.blk (st_Bd_isLike) 2 (pc1 := 2) (L1 := [(2, (0, 0)), (0, (2, ((2 : Nat) : Int))), (1, (2, ((20 : Nat) : Int)))]) (st1 := []) (h1 := h) rfl ?_
  refine jG.subp [1, 2, 0] (L1 := [(0, (2, ((2 : Nat) : Int))), (1, (2, ((20 : Nat) : Int))), (2, (0, 0))]) rfl ?_
  refine f_Bd_isLike_lp2_ok E (fun l2 res hv => ?_) 1000 _ _ hv
  · refine jG.blk (st_Bd_isLike) 4 (pc1 := 39) (L1 := [(0, (2, ((2 : Nat) : Int))), (1, (2, ((20 : Nat) : Int)))]) (st1 := [(0, h 20 1), (0, h 2 1)]) (h1 := h) rfl ?_
    refine jT.if2 (st_Bd_isLike) rfl (tgt := 79) (by decide) (fun hc => ?_) (fun hc => ?_)
    · have hc : ¬ (h 2 1 = h 20 1) := hc
      try rw [if_neg hc] at hv
      refine jG.blk (st_Bd_isLike) 1 (pc1 := 80) (L1 := [(0, (2, ((2 : Nat) : Int))), (1, (2, ((20 : Nat) : Int)))]) (st1 := [(0, 0)]) (h1 := h) rfl ?_
      cases hv
      exact jT.iret (st_Bd_isLike) rfl (Or.inl rfl)
    · have hc : h 2 1 = h 20 1 := Decidable.not_not.mp hc
      try rw [if_pos hc] at hv
      refine jG.blk (st_Bd_isLike) 4 (pc1 := 50) (L1 := [(0, (2, ((2 : Nat) : Int))), (1, (2, ((20 : Nat) : Int)))]) (st1 := [(0, h 20 2), (0, h 2 2)]) (h1 := h) rfl ?_
      refine jT.if2 (st_Bd_isLike) rfl (tgt := 79) (by decide) (fun hc => ?_) (fun hc => ?_)
      · have hc : ¬ (h 2 2 = h 20 2) := hc
        try rw [if_neg hc] at hv
        refine jG.blk (st_Bd_isLike) 1 (pc1 := 80) (L1 := [(0, (2, ((2 : Nat) : Int))), (1, (2, ((20 : Nat) : Int)))]) (st1 := [(0, 0)]) (h1 := h) rfl ?_
        cases hv
        exact jT.iret (st_Bd_isLike) rfl (Or.inl rfl)
      · have hc : h 2 2 = h 20 2 := Decidable.not_not.mp hc
        try rw [if_pos hc] at hv
        refine jG.blk (st_Bd_isLike) 4 (pc1 := 61) (L1 := [(0, (2, ((2 : Nat) : Int))), (1, (2, ((20 : Nat) : Int)))]) (st1 := [(0, h 20 3), (0, h 2 3)]) (h1 := h) rfl ?_
        refine jT.if2 (st_Bd_isLike) rfl (tgt := 79) (by decide) (fun hc => ?_) (fun hc => ?_)
        · have hc : ¬ (h 2 3 = h 20 3) := hc
          try rw [if_neg hc] at hv
          refine jG.blk (st_Bd_isLike) 1 (pc1 := 80) (L1 := [(0, (2, ((2 : Nat) : Int))), (1, (2, ((20 : Nat) : Int)))]) (st1 := [(0, 0)]) (h1 := h) rfl ?_
          cases hv
          exact jT.iret (st_Bd_isLike) rfl (Or.inl rfl)
        · have hc : h 2 3 = h 20 3 := Decidable.not_not.mp hc
          try rw [if_pos hc] at hv
          refine jG.blk (st_Bd_isLike) 4 (pc1 := 72) (L1 := [(0, (2, ((2 : Nat) : Int))), (1, (2, ((20 : Nat) : Int)))]) (st1 := [(0, h 20 4), (0, h 2 4)]) (h1 := h) rfl ?_
          refine jT.if2 (st_Bd_isLike) rfl (tgt := 79) (by decide) (fun hc => ?_) (fun hc => ?_)
          · have hc : ¬ (h 2 4 = h 20 4) := hc
            try rw [if_neg hc] at hv
            refine jG.blk (st_Bd_isLike) 1 (pc1 := 80) (L1 := [(0, (2, ((2 : Nat) : Int))), (1, (2, ((20 : Nat) : Int)))]) (st1 := [(0, 0)]) (h1 := h) rfl ?_
            cases hv
            exact jT.iret (st_Bd_isLike) rfl (Or.inl rfl)
          · have hc : h 2 4 = h 20 4 := Decidable.not_not.mp hc
            try rw [if_pos hc] at hv
            refine jG.blk (st_Bd_isLike) 1 (pc1 := 76) (L1 := [(0, (2, ((2 : Nat) : Int))), (1, (2, ((20 : Nat) : Int)))]) (st1 := [(0, 1)]) (h1 := h) rfl ?_
            refine jT.goto (st_Bd_isLike) rfl (tgt := 80) (by decide) ?_
            cases hv
            exact jT.iret (st_Bd_isLike) rfl (Or.inr rfl)
