def f_X_clear (h : jH) : Option (jH) := (f_Bd_wipe 2 h).bind fun v1 => (f_Gm_forget v1).bind fun v2 => some (jup v2 0 9 0)
set_option maxRecDepth 100000 in
set_option maxHeartbeats 4000000 in
theorem C_X_clear {E : jE} {h : jH} {res : jH} (hv : f_X_clear h = some res) : jC E M_X_clear [(2, ((0 : Nat) : Int))] h none res := by
  refine jC.of ok_X_clear.1 (by rw [jlg]; exact Nat.le_of_ble_eq_true rfl) ?_
  show jG E _ 0 [(0, (2, ((0 : Nat) : Int)))] [] h _ _
  unfold f_X_clear at hv
  refine jG.blk (st_X_clear) 2 (pc1 := 4) (L1 := [(0, (2, ((0 : Nat) : Int)))]) (st1 := [(2, ((2 : Nat) : Int))]) (h1 := h) rfl ?_
  obtain ⟨v1, hq, hv⟩ := Option.bind_eq_some_iff.mp hv
  refine jT.cV (M1 := M_Bd_wipe) (2, ((2 : Nat) : Int)) [] [] (st_X_clear) rfl rfl ok_Bd_wipe rfl (Or.inl ⟨rfl, _, _, _, rfl, rfl⟩) (Nat.le_of_ble_eq_true rfl) (Nat.le_of_ble_eq_true rfl) rfl (Nat.le_of_ble_eq_true rfl) (C_Bd_wipe (by decide) hq) ?_
  show jG E _ 7 [(0, (2, ((0 : Nat) : Int)))] [] v1 _ _
  refine jG.blk (st_X_clear) 2 (pc1 := 11) (L1 := [(0, (2, ((0 : Nat) : Int)))]) (st1 := [(2, ((1 : Nat) : Int))]) (h1 := v1) rfl ?_
  obtain ⟨v2, hq, hv⟩ := Option.bind_eq_some_iff.mp hv
  refine jT.cV (M1 := M_Gm_forget) (2, ((1 : Nat) : Int)) [] [] (st_X_clear) rfl rfl ok_Gm_forget rfl (Or.inl ⟨rfl, _, _, _, rfl, rfl⟩) (Nat.le_of_ble_eq_true rfl) (Nat.le_of_ble_eq_true rfl) rfl (Nat.le_of_ble_eq_true rfl) (C_Gm_forget hq) ?_
  show jG E _ 14 [(0, (2, ((0 : Nat) : Int)))] [] v2 _ _
  refine jG.blk (st_X_clear) 3 (pc1 := 19) (L1 := [(0, (2, ((0 : Nat) : Int)))]) (st1 := []) (h1 := jup v2 0 9 0) rfl ?_
  cases hv
  exact jT.vret (st_X_clear) rfl trivial
def f_X_put (h : jH) (a1 : Int) (a2 : Int) : Option (Int × jH) := (f_X_isSquare h a1).bind fun v1 => if v1 = 0 then some (0, h) else if a2 < 0 then some (0, h) else if a2 ≤ 12 then jgd (0 ≤ a1 ∧ a1 < 64) ((f_Gm_forget (jup h 3 a1.toNat a2)).bind fun v2 => some (1, jup v2 0 9 0)) else some (0, h)
set_option maxRecDepth 100000 in
set_option maxHeartbeats 4000000 in
theorem C_X_put {E : jE} {h : jH} {a1 : Int} {a2 : Int} {res : Int × jH} (hv : f_X_put h a1 a2 = some res) : jC E M_X_put [(2, ((0 : Nat) : Int)), (0, a1), (0, a2)] h (some (0, res.1)) res.2 := by
  refine jC.of ok_X_put.1 (by rw [jlg]; exact Nat.le_of_ble_eq_true rfl) ?_
  show jG E _ 0 [(0, (2, ((0 : Nat) : Int))), (1, (0, a1)), (2, (0, a2))] [] h _ _
  unfold f_X_put at hv
  refine jG.blk (st_X_put) 1 (pc1 := 1) (L1 := [(0, (2, ((0 : Nat) : Int))), (1, (0, a1)), (2, (0, a2))]) (st1 := [(0, a1)]) (h1 := h) rfl ?_
  obtain ⟨v1, hq, hv⟩ := Option.bind_eq_some_iff.mp hv
  refine jT.cS (M1 := M_X_isSquare) [(0, a1)] [] (st_X_put) rfl rfl ok_X_isSquare rfl (Nat.le_of_ble_eq_true rfl) (Nat.le_of_ble_eq_true rfl) rfl (Nat.le_of_ble_eq_true rfl) (C_X_isSquare hq) ?_
  show jG E _ 4 [(0, (2, ((0 : Nat) : Int))), (1, (0, a1)), (2, (0, a2))] [(0, v1)] h _ _
  refine jT.if1 (st_X_put) rfl (tgt := 17) (by decide) (fun hc => ?_) (fun hc => ?_)
  · have hc : v1 = 0 := hc
    try rw [if_pos hc] at hv
    refine jG.blk (st_X_put) 1 (pc1 := 18) (L1 := [(0, (2, ((0 : Nat) : Int))), (1, (0, a1)), (2, (0, a2))]) (st1 := [(0, 0)]) (h1 := h) rfl ?_
    cases hv
    exact jT.iret (st_X_put) rfl trivial
  · have hc : ¬ (v1 = 0) := hc
    try rw [if_neg hc] at hv
    refine jG.blk (st_X_put) 1 (pc1 := 8) (L1 := [(0, (2, ((0 : Nat) : Int))), (1, (0, a1)), (2, (0, a2))]) (st1 := [(0, a2)]) (h1 := h) rfl ?_
    refine jT.if1 (st_X_put) rfl (tgt := 17) (by decide) (fun hc => ?_) (fun hc => ?_)
    · have hc : a2 < 0 := hc
      try rw [if_pos hc] at hv
      refine jG.blk (st_X_put) 1 (pc1 := 18) (L1 := [(0, (2, ((0 : Nat) : Int))), (1, (0, a1)), (2, (0, a2))]) (st1 := [(0, 0)]) (h1 := h) rfl ?_
      cases hv
      exact jT.iret (st_X_put) rfl trivial
    · have hc : ¬ (a2 < 0) := hc
      try rw [if_neg hc] at hv
      refine jG.blk (st_X_put) 2 (pc1 := 14) (L1 := [(0, (2, ((0 : Nat) : Int))), (1, (0, a1)), (2, (0, a2))]) (st1 := [(0, 12), (0, a2)]) (h1 := h) rfl ?_
      refine jT.if2 (st_X_put) rfl (tgt := 19) (by decide) (fun hc => ?_) (fun hc => ?_)
      · have hc : a2 ≤ 12 := hc
        try rw [if_pos hc] at hv
        refine jG.blk (st_X_put) 5 (pc1 := 28) (L1 := [(0, (2, ((0 : Nat) : Int))), (1, (0, a1)), (2, (0, a2))]) (st1 := [(0, a2), (0, a1), (2, ((3 : Nat) : Int))]) (h1 := h) rfl ?_
        obtain ⟨hg, hv⟩ := jgd_some hv
        refine jT.iast (a := 3) (st_X_put) rfl rfl (by decide) hg.1 hg.2 ?_
        refine jG.blk (st_X_put) 2 (pc1 := 33) (L1 := [(0, (2, ((0 : Nat) : Int))), (1, (0, a1)), (2, (0, a2))]) (st1 := [(2, ((1 : Nat) : Int))]) (h1 := jup h 3 a1.toNat a2) rfl ?_
        obtain ⟨v2, hq, hv⟩ := Option.bind_eq_some_iff.mp hv
        refine jT.cV (M1 := M_Gm_forget) (2, ((1 : Nat) : Int)) [] [] (st_X_put) rfl rfl ok_Gm_forget rfl (Or.inl ⟨rfl, _, _, _, rfl, rfl⟩) (Nat.le_of_ble_eq_true rfl) (Nat.le_of_ble_eq_true rfl) rfl (Nat.le_of_ble_eq_true rfl) (C_Gm_forget hq) ?_
        show jG E _ 36 [(0, (2, ((0 : Nat) : Int))), (1, (0, a1)), (2, (0, a2))] [] v2 _ _
        refine jG.blk (st_X_put) 4 (pc1 := 42) (L1 := [(0, (2, ((0 : Nat) : Int))), (1, (0, a1)), (2, (0, a2))]) (st1 := [(0, 1)]) (h1 := jup v2 0 9 0) rfl ?_
        cases hv
        exact jT.iret (st_X_put) rfl trivial
      · have hc : ¬ (a2 ≤ 12) := hc
        try rw [if_neg hc] at hv
        refine jG.blk (st_X_put) 1 (pc1 := 18) (L1 := [(0, (2, ((0 : Nat) : Int))), (1, (0, a1)), (2, (0, a2))]) (st1 := [(0, 0)]) (h1 := h) rfl ?_
        cases hv
        exact jT.iret (st_X_put) rfl trivial
def f_X_adoptDraft (h : jH) : Option (Int × jH) := (f_Bd_isGood h).bind fun v1 => if v1 = 0 then some (0, h) else (f_Bd_copyFrom 2 20 h).bind fun v2 => (f_Gm_forget v2).bind fun v3 => (f_Bd_passingTakers v3).bind fun v4 => (f_Ps_enter v4.2 0 v4.1).bind fun v5 => some (1, jup v5 0 9 1)
set_option maxRecDepth 100000 in
set_option maxHeartbeats 4000000 in
theorem C_X_adoptDraft {E : jE} {h : jH} {res : Int × jH} (hv : f_X_adoptDraft h = some res) : jC E M_X_adoptDraft [(2, ((0 : Nat) : Int))] h (some (0, res.1)) res.2 := by
  refine jC.of ok_X_adoptDraft.1 (by rw [jlg]; exact Nat.le_of_ble_eq_true rfl) ?_
  show jG E _ 0 [(0, (2, ((0 : Nat) : Int)))] [] h _ _
  unfold f_X_adoptDraft at hv
  refine jG.blk (st_X_adoptDraft) 2 (pc1 := 4) (L1 := [(0, (2, ((0 : Nat) : Int)))]) (st1 := [(2, ((20 : Nat) : Int))]) (h1 := h) rfl ?_
  obtain ⟨v1, hq, hv⟩ := Option.bind_eq_some_iff.mp hv
  refine jT.cV (M1 := M_Bd_isGood) (2, ((20 : Nat) : Int)) [] [] (st_X_adoptDraft) rfl rfl ok_Bd_isGood rfl (Or.inl ⟨rfl, _, _, _, rfl, rfl⟩) (Nat.le_of_ble_eq_true rfl) (Nat.le_of_ble_eq_true rfl) rfl (Nat.le_of_ble_eq_true rfl) (C_Bd_isGood hq) ?_
  show jG E _ 7 [(0, (2, ((0 : Nat) : Int)))] [(0, v1)] h _ _
  refine jT.if1 (st_X_adoptDraft) rfl (tgt := 12) (by decide) (fun hc => ?_) (fun hc => ?_)
  · have hc : ¬ (v1 = 0) := hc
    try rw [if_neg hc] at hv
    refine jG.blk (st_X_adoptDraft) 4 (pc1 := 20) (L1 := [(0, (2, ((0 : Nat) : Int)))]) (st1 := [(2, ((20 : Nat) : Int)), (2, ((2 : Nat) : Int))]) (h1 := h) rfl ?_
    obtain ⟨v2, hq, hv⟩ := Option.bind_eq_some_iff.mp hv
    refine jT.cV (M1 := M_Bd_copyFrom) (2, ((2 : Nat) : Int)) [(2, ((20 : Nat) : Int))] [] (st_X_adoptDraft) rfl rfl ok_Bd_copyFrom rfl (Or.inl ⟨rfl, _, _, _, rfl, rfl⟩) (Nat.le_of_ble_eq_true rfl) (Nat.le_of_ble_eq_true rfl) rfl (Nat.le_of_ble_eq_true rfl) (C_Bd_copyFrom (by decide) hq) ?_
    show jG E _ 23 [(0, (2, ((0 : Nat) : Int)))] [] v2 _ _
    refine jG.blk (st_X_adoptDraft) 2 (pc1 := 27) (L1 := [(0, (2, ((0 : Nat) : Int)))]) (st1 := [(2, ((1 : Nat) : Int))]) (h1 := v2) rfl ?_
    obtain ⟨v3, hq, hv⟩ := Option.bind_eq_some_iff.mp hv
    refine jT.cV (M1 := M_Gm_forget) (2, ((1 : Nat) : Int)) [] [] (st_X_adoptDraft) rfl rfl ok_Gm_forget rfl (Or.inl ⟨rfl, _, _, _, rfl, rfl⟩) (Nat.le_of_ble_eq_true rfl) (Nat.le_of_ble_eq_true rfl) rfl (Nat.le_of_ble_eq_true rfl) (C_Gm_forget hq) ?_
    show jG E _ 30 [(0, (2, ((0 : Nat) : Int)))] [] v3 _ _
    refine jG.blk (st_X_adoptDraft) 7 (pc1 := 43) (L1 := [(0, (2, ((0 : Nat) : Int)))]) (st1 := [(2, ((2 : Nat) : Int)), (2, ((2 : Nat) : Int)), (0, 0), (2, ((9 : Nat) : Int))]) (h1 := v3) rfl ?_
    obtain ⟨v4, hq, hv⟩ := Option.bind_eq_some_iff.mp hv
    refine jT.cV (M1 := M_Bd_passingTakers) (2, ((2 : Nat) : Int)) [] [(2, ((2 : Nat) : Int)), (0, 0), (2, ((9 : Nat) : Int))] (st_X_adoptDraft) rfl rfl ok_Bd_passingTakers rfl (Or.inl ⟨rfl, _, _, _, rfl, rfl⟩) (Nat.le_of_ble_eq_true rfl) (Nat.le_of_ble_eq_true rfl) rfl (Nat.le_of_ble_eq_true rfl) (C_Bd_passingTakers hq) ?_
    show jG E _ 46 [(0, (2, ((0 : Nat) : Int)))] [(1, v4.1), (2, ((2 : Nat) : Int)), (0, 0), (2, ((9 : Nat) : Int))] v4.2 _ _
    obtain ⟨v5, hq, hv⟩ := Option.bind_eq_some_iff.mp hv
    refine jT.cV (M1 := M_Ps_enter) (2, ((9 : Nat) : Int)) [(0, 0), (2, ((2 : Nat) : Int)), (1, v4.1)] [] (st_X_adoptDraft) rfl rfl ok_Ps_enter rfl (Or.inl ⟨rfl, _, _, _, rfl, rfl⟩) (Nat.le_of_ble_eq_true rfl) (Nat.le_of_ble_eq_true rfl) rfl (Nat.le_of_ble_eq_true rfl) (C_Ps_enter hq) ?_
    show jG E _ 49 [(0, (2, ((0 : Nat) : Int)))] [] v5 _ _
    refine jG.blk (st_X_adoptDraft) 4 (pc1 := 55) (L1 := [(0, (2, ((0 : Nat) : Int)))]) (st1 := [(0, 1)]) (h1 := jup v5 0 9 1) rfl ?_
    cases hv
    exact jT.iret (st_X_adoptDraft) rfl (Or.inr rfl)
  · have hc : v1 = 0 := Decidable.not_not.mp hc
    try rw [if_pos hc] at hv
    refine jG.blk (st_X_adoptDraft) 1 (pc1 := 11) (L1 := [(0, (2, ((0 : Nat) : Int)))]) (st1 := [(0, 0)]) (h1 := h) rfl ?_
    cases hv
    exact jT.iret (st_X_adoptDraft) rfl (Or.inl rfl)
def f_X_set (h : jH) (a1 : Int) (a2 : Int) (a3 : Int) (a4 : Int) : Option (Int × jH) := (f_X_isSide h a1).bind fun v1 => if v1 = 0 then some (0, h) else if a2 < 0 then some (0, h) else if a2 ≤ 15 then if a3 < (-1) then some (0, h) else if 7 < a3 then some (0, h) else if a4 < 0 then some (0, h) else if a4 ≤ 150 then (f_Bd_copyFrom 20 2 h).bind fun v2 => (f_Bd_enterState 20 v2 a1 a2 a3 a4).bind fun v3 => (f_X_adoptDraft v3).bind fun v4 => some (if v4.1 = 0 then (0, v4.2) else (1, v4.2)) else some (0, h) else some (0, h)
set_option maxRecDepth 100000 in
set_option maxHeartbeats 4000000 in
theorem C_X_set {E : jE} {h : jH} {a1 : Int} {a2 : Int} {a3 : Int} {a4 : Int} {res : Int × jH} (hv : f_X_set h a1 a2 a3 a4 = some res) : jC E M_X_set [(2, ((0 : Nat) : Int)), (0, a1), (0, a2), (0, a3), (0, a4)] h (some (0, res.1)) res.2 := by
  refine jC.of ok_X_set.1 (by rw [jlg]; exact Nat.le_of_ble_eq_true rfl) ?_
  show jG E _ 0 [(0, (2, ((0 : Nat) : Int))), (1, (0, a1)), (2, (0, a2)), (3, (0, a3)), (4, (0, a4))] [] h _ _
  unfold f_X_set at hv
  refine jG.blk (st_X_set) 1 (pc1 := 1) (L1 := [(0, (2, ((0 : Nat) : Int))), (1, (0, a1)), (2, (0, a2)), (3, (0, a3)), (4, (0, a4))]) (st1 := [(0, a1)]) (h1 := h) rfl ?_
  obtain ⟨v1, hq, hv⟩ := Option.bind_eq_some_iff.mp hv
  refine jT.cS (M1 := M_X_isSide) [(0, a1)] [] (st_X_set) rfl rfl ok_X_isSide rfl (Nat.le_of_ble_eq_true rfl) (Nat.le_of_ble_eq_true rfl) rfl (Nat.le_of_ble_eq_true rfl) (C_X_isSide hq) ?_
  show jG E _ 4 [(0, (2, ((0 : Nat) : Int))), (1, (0, a1)), (2, (0, a2)), (3, (0, a3)), (4, (0, a4))] [(0, v1)] h _ _
  refine jT.if1 (st_X_set) rfl (tgt := 17) (by decide) (fun hc => ?_) (fun hc => ?_)
  · have hc : v1 = 0 := hc
    try rw [if_pos hc] at hv
    refine jG.blk (st_X_set) 1 (pc1 := 18) (L1 := [(0, (2, ((0 : Nat) : Int))), (1, (0, a1)), (2, (0, a2)), (3, (0, a3)), (4, (0, a4))]) (st1 := [(0, 0)]) (h1 := h) rfl ?_
    cases hv
    exact jT.iret (st_X_set) rfl trivial
  · have hc : ¬ (v1 = 0) := hc
    try rw [if_neg hc] at hv
    refine jG.blk (st_X_set) 1 (pc1 := 8) (L1 := [(0, (2, ((0 : Nat) : Int))), (1, (0, a1)), (2, (0, a2)), (3, (0, a3)), (4, (0, a4))]) (st1 := [(0, a2)]) (h1 := h) rfl ?_
    refine jT.if1 (st_X_set) rfl (tgt := 17) (by decide) (fun hc => ?_) (fun hc => ?_)
    · have hc : a2 < 0 := hc
      try rw [if_pos hc] at hv
      refine jG.blk (st_X_set) 1 (pc1 := 18) (L1 := [(0, (2, ((0 : Nat) : Int))), (1, (0, a1)), (2, (0, a2)), (3, (0, a3)), (4, (0, a4))]) (st1 := [(0, 0)]) (h1 := h) rfl ?_
      cases hv
      exact jT.iret (st_X_set) rfl trivial
    · have hc : ¬ (a2 < 0) := hc
      try rw [if_neg hc] at hv
      refine jG.blk (st_X_set) 2 (pc1 := 14) (L1 := [(0, (2, ((0 : Nat) : Int))), (1, (0, a1)), (2, (0, a2)), (3, (0, a3)), (4, (0, a4))]) (st1 := [(0, 15), (0, a2)]) (h1 := h) rfl ?_
      refine jT.if2 (st_X_set) rfl (tgt := 19) (by decide) (fun hc => ?_) (fun hc => ?_)
      · have hc : a2 ≤ 15 := hc
        try rw [if_pos hc] at hv
        refine jG.blk (st_X_set) 2 (pc1 := 21) (L1 := [(0, (2, ((0 : Nat) : Int))), (1, (0, a1)), (2, (0, a2)), (3, (0, a3)), (4, (0, a4))]) (st1 := [(0, (-1)), (0, a3)]) (h1 := h) rfl ?_
        refine jT.if2 (st_X_set) rfl (tgt := 43) (by decide) (fun hc => ?_) (fun hc => ?_)
        · have hc : a3 < (-1) := hc
          try rw [if_pos hc] at hv
          refine jG.blk (st_X_set) 1 (pc1 := 44) (L1 := [(0, (2, ((0 : Nat) : Int))), (1, (0, a1)), (2, (0, a2)), (3, (0, a3)), (4, (0, a4))]) (st1 := [(0, 0)]) (h1 := h) rfl ?_
          cases hv
          exact jT.iret (st_X_set) rfl trivial
        · have hc : ¬ (a3 < (-1)) := hc
          try rw [if_neg hc] at hv
          refine jG.blk (st_X_set) 2 (pc1 := 27) (L1 := [(0, (2, ((0 : Nat) : Int))), (1, (0, a1)), (2, (0, a2)), (3, (0, a3)), (4, (0, a4))]) (st1 := [(0, 7), (0, a3)]) (h1 := h) rfl ?_
          refine jT.if2 (st_X_set) rfl (tgt := 43) (by decide) (fun hc => ?_) (fun hc => ?_)
          · have hc : 7 < a3 := hc
            try rw [if_pos hc] at hv
            refine jG.blk (st_X_set) 1 (pc1 := 44) (L1 := [(0, (2, ((0 : Nat) : Int))), (1, (0, a1)), (2, (0, a2)), (3, (0, a3)), (4, (0, a4))]) (st1 := [(0, 0)]) (h1 := h) rfl ?_
            cases hv
            exact jT.iret (st_X_set) rfl trivial
          · have hc : ¬ (7 < a3) := hc
            try rw [if_neg hc] at hv
            refine jG.blk (st_X_set) 1 (pc1 := 32) (L1 := [(0, (2, ((0 : Nat) : Int))), (1, (0, a1)), (2, (0, a2)), (3, (0, a3)), (4, (0, a4))]) (st1 := [(0, a4)]) (h1 := h) rfl ?_
            refine jT.if1 (st_X_set) rfl (tgt := 43) (by decide) (fun hc => ?_) (fun hc => ?_)
            · have hc : a4 < 0 := hc
              try rw [if_pos hc] at hv
              refine jG.blk (st_X_set) 1 (pc1 := 44) (L1 := [(0, (2, ((0 : Nat) : Int))), (1, (0, a1)), (2, (0, a2)), (3, (0, a3)), (4, (0, a4))]) (st1 := [(0, 0)]) (h1 := h) rfl ?_
              cases hv
              exact jT.iret (st_X_set) rfl trivial
            · have hc : ¬ (a4 < 0) := hc
              try rw [if_neg hc] at hv
              refine jG.blk (st_X_set) 2 (pc1 := 40) (L1 := [(0, (2, ((0 : Nat) : Int))), (1, (0, a1)), (2, (0, a2)), (3, (0, a3)), (4, (0, a4))]) (st1 := [(0, 150), (0, a4)]) (h1 := h) rfl ?_
              refine jT.if2 (st_X_set) rfl (tgt := 45) (by decide) (fun hc => ?_) (fun hc => ?_)
              · have hc : a4 ≤ 150 := hc
                try rw [if_pos hc] at hv
                refine jG.blk (st_X_set) 4 (pc1 := 53) (L1 := [(0, (2, ((0 : Nat) : Int))), (1, (0, a1)), (2, (0, a2)), (3, (0, a3)), (4, (0, a4))]) (st1 := [(2, ((2 : Nat) : Int)), (2, ((20 : Nat) : Int))]) (h1 := h) rfl ?_
                obtain ⟨v2, hq, hv⟩ := Option.bind_eq_some_iff.mp hv
                refine jT.cV (M1 := M_Bd_copyFrom) (2, ((20 : Nat) : Int)) [(2, ((2 : Nat) : Int))] [] (st_X_set) rfl rfl ok_Bd_copyFrom rfl (Or.inl ⟨rfl, _, _, _, rfl, rfl⟩) (Nat.le_of_ble_eq_true rfl) (Nat.le_of_ble_eq_true rfl) rfl (Nat.le_of_ble_eq_true rfl) (C_Bd_copyFrom (by decide) hq) ?_
                show jG E _ 56 [(0, (2, ((0 : Nat) : Int))), (1, (0, a1)), (2, (0, a2)), (3, (0, a3)), (4, (0, a4))] [] v2 _ _
                refine jG.blk (st_X_set) 6 (pc1 := 65) (L1 := [(0, (2, ((0 : Nat) : Int))), (1, (0, a1)), (2, (0, a2)), (3, (0, a3)), (4, (0, a4))]) (st1 := [(0, a4), (0, a3), (0, a2), (0, a1), (2, ((20 : Nat) : Int))]) (h1 := v2) rfl ?_
                obtain ⟨v3, hq, hv⟩ := Option.bind_eq_some_iff.mp hv
                refine jT.cV (M1 := M_Bd_enterState) (2, ((20 : Nat) : Int)) [(0, a1), (0, a2), (0, a3), (0, a4)] [] (st_X_set) rfl rfl ok_Bd_enterState rfl (Or.inl ⟨rfl, _, _, _, rfl, rfl⟩) (Nat.le_of_ble_eq_true rfl) (Nat.le_of_ble_eq_true rfl) rfl (Nat.le_of_ble_eq_true rfl) (C_Bd_enterState (by decide) hq) ?_
                show jG E _ 68 [(0, (2, ((0 : Nat) : Int))), (1, (0, a1)), (2, (0, a2)), (3, (0, a3)), (4, (0, a4))] [] v3 _ _
                refine jG.blk (st_X_set) 1 (pc1 := 69) (L1 := [(0, (2, ((0 : Nat) : Int))), (1, (0, a1)), (2, (0, a2)), (3, (0, a3)), (4, (0, a4))]) (st1 := [(2, ((0 : Nat) : Int))]) (h1 := v3) rfl ?_
                obtain ⟨v4, hq, hv⟩ := Option.bind_eq_some_iff.mp hv
                refine jT.cV (M1 := M_X_adoptDraft) (2, ((0 : Nat) : Int)) [] [] (st_X_set) rfl rfl ok_X_adoptDraft rfl (Or.inl ⟨rfl, _, _, _, rfl, rfl⟩) (Nat.le_of_ble_eq_true rfl) (Nat.le_of_ble_eq_true rfl) rfl (Nat.le_of_ble_eq_true rfl) (C_X_adoptDraft hq) ?_
                show jG E _ 72 [(0, (2, ((0 : Nat) : Int))), (1, (0, a1)), (2, (0, a2)), (3, (0, a3)), (4, (0, a4))] [(0, v4.1)] v4.2 _ _
                refine jT.if1 (st_X_set) rfl (tgt := 79) (by decide) (fun hc => ?_) (fun hc => ?_)
                · have hc : v4.1 = 0 := hc
                  try rw [if_pos hc] at hv
                  refine jG.blk (st_X_set) 1 (pc1 := 80) (L1 := [(0, (2, ((0 : Nat) : Int))), (1, (0, a1)), (2, (0, a2)), (3, (0, a3)), (4, (0, a4))]) (st1 := [(0, 0)]) (h1 := v4.2) rfl ?_
                  cases hv
                  exact jT.iret (st_X_set) rfl trivial
                · have hc : ¬ (v4.1 = 0) := hc
                  try rw [if_neg hc] at hv
                  refine jG.blk (st_X_set) 1 (pc1 := 76) (L1 := [(0, (2, ((0 : Nat) : Int))), (1, (0, a1)), (2, (0, a2)), (3, (0, a3)), (4, (0, a4))]) (st1 := [(0, 1)]) (h1 := v4.2) rfl ?_
                  refine jT.goto (st_X_set) rfl (tgt := 80) (by decide) ?_
                  cases hv
                  exact jT.iret (st_X_set) rfl trivial
              · have hc : ¬ (a4 ≤ 150) := hc
                try rw [if_neg hc] at hv
                refine jG.blk (st_X_set) 1 (pc1 := 44) (L1 := [(0, (2, ((0 : Nat) : Int))), (1, (0, a1)), (2, (0, a2)), (3, (0, a3)), (4, (0, a4))]) (st1 := [(0, 0)]) (h1 := h) rfl ?_
                cases hv
                exact jT.iret (st_X_set) rfl trivial
      · have hc : ¬ (a2 ≤ 15) := hc
        try rw [if_neg hc] at hv
        refine jG.blk (st_X_set) 1 (pc1 := 18) (L1 := [(0, (2, ((0 : Nat) : Int))), (1, (0, a1)), (2, (0, a2)), (3, (0, a3)), (4, (0, a4))]) (st1 := [(0, 0)]) (h1 := h) rfl ?_
        cases hv
        exact jT.iret (st_X_set) rfl trivial
def f_X_at (h : jH) (a1 : Int) : Option (Int) := (f_X_isSquare h a1).bind fun v1 => if v1 = 0 then some (-1) else jgd (0 ≤ a1 ∧ a1 < 64) (some (h 3 a1.toNat))
set_option maxRecDepth 100000 in
set_option maxHeartbeats 4000000 in
theorem C_X_at {E : jE} {h : jH} {a1 : Int} {res : Int} (hv : f_X_at h a1 = some res) : jC E M_X_at [(2, ((0 : Nat) : Int)), (0, a1)] h (some (0, res)) h := by
  refine jC.of ok_X_at.1 (by rw [jlg]; exact Nat.le_of_ble_eq_true rfl) ?_
  show jG E _ 0 [(0, (2, ((0 : Nat) : Int))), (1, (0, a1))] [] h _ _
  unfold f_X_at at hv
  refine jG.blk (st_X_at) 1 (pc1 := 1) (L1 := [(0, (2, ((0 : Nat) : Int))), (1, (0, a1))]) (st1 := [(0, a1)]) (h1 := h) rfl ?_
  obtain ⟨v1, hq, hv⟩ := Option.bind_eq_some_iff.mp hv
  refine jT.cS (M1 := M_X_isSquare) [(0, a1)] [] (st_X_at) rfl rfl ok_X_isSquare rfl (Nat.le_of_ble_eq_true rfl) (Nat.le_of_ble_eq_true rfl) rfl (Nat.le_of_ble_eq_true rfl) (C_X_isSquare hq) ?_
  show jG E _ 4 [(0, (2, ((0 : Nat) : Int))), (1, (0, a1))] [(0, v1)] h _ _
  refine jT.if1 (st_X_at) rfl (tgt := 19) (by decide) (fun hc => ?_) (fun hc => ?_)
  · have hc : v1 = 0 := hc
    try rw [if_pos hc] at hv
    refine jG.blk (st_X_at) 1 (pc1 := 20) (L1 := [(0, (2, ((0 : Nat) : Int))), (1, (0, a1))]) (st1 := [(0, (-1))]) (h1 := h) rfl ?_
    cases hv
    exact jT.iret (st_X_at) rfl trivial
  · have hc : ¬ (v1 = 0) := hc
    try rw [if_neg hc] at hv
    refine jG.blk (st_X_at) 4 (pc1 := 15) (L1 := [(0, (2, ((0 : Nat) : Int))), (1, (0, a1))]) (st1 := [(0, a1), (2, ((3 : Nat) : Int))]) (h1 := h) rfl ?_
    obtain ⟨hg, hv⟩ := jgd_some hv
    refine jT.iald (a := 3) (st_X_at) rfl rfl (by decide) hg.1 hg.2 ?_
    refine jT.goto (st_X_at) rfl (tgt := 20) (by decide) ?_
    cases hv
    exact jT.iret (st_X_at) rfl trivial
def f_X_state (h : jH) (a1 : Int) : Option (Int) := some (if h 0 9 = 0 then (-2) else if a1 = 0 then h 2 1 else if a1 = 1 then h 2 2 else if a1 = 2 then h 2 3 else if a1 = 3 then h 2 4 else if a1 = 4 then h 1 6 else (-2))
set_option maxRecDepth 100000 in
set_option maxHeartbeats 4000000 in
theorem C_X_state {E : jE} {h : jH} {a1 : Int} {res : Int} (hv : f_X_state h a1 = some res) : jC E M_X_state [(2, ((0 : Nat) : Int)), (0, a1)] h (some (0, res)) h := by
  refine jC.of ok_X_state.1 (by rw [jlg]; exact Nat.le_of_ble_eq_true rfl) ?_
  show jG E _ 0 [(0, (2, ((0 : Nat) : Int))), (1, (0, a1))] [] h _ _
  unfold f_X_state at hv
  refine jG.blk (st_X_state) 2 (pc1 := 4) (L1 := [(0, (2, ((0 : Nat) : Int))), (1, (0, a1))]) (st1 := [(0, h 0 9)]) (h1 := h) rfl ?_
  refine jT.if1 (st_X_state) rfl (tgt := 10) (by decide) (fun hc => ?_) (fun hc => ?_)
  · have hc : ¬ (h 0 9 = 0) := hc
    try rw [if_neg hc] at hv
    refine jG.blk (st_X_state) 1 (pc1 := 11) (L1 := [(0, (2, ((0 : Nat) : Int))), (1, (0, a1))]) (st1 := [(0, a1)]) (h1 := h) rfl ?_
    by_cases hn0 : a1 = 0
    · try rw [if_pos hn0] at hv
      refine jT.tswI (st_X_state) rfl (by omega) (by omega) (off := 33) (by rw [hn0]; rfl) (tgt := 44) (by decide) ?_
      refine jG.blk (st_X_state) 3 (pc1 := 51) (L1 := [(0, (2, ((0 : Nat) : Int))), (1, (0, a1))]) (st1 := [(0, h 2 1)]) (h1 := h) rfl ?_
      cases hv
      exact jT.iret (st_X_state) rfl trivial
    · try rw [if_neg hn0] at hv
      by_cases hn1 : a1 = 1
      · try rw [if_pos hn1] at hv
        refine jT.tswI (st_X_state) rfl (by omega) (by omega) (off := 41) (by rw [hn1]; rfl) (tgt := 52) (by decide) ?_
        refine jG.blk (st_X_state) 3 (pc1 := 59) (L1 := [(0, (2, ((0 : Nat) : Int))), (1, (0, a1))]) (st1 := [(0, h 2 2)]) (h1 := h) rfl ?_
        cases hv
        exact jT.iret (st_X_state) rfl trivial
      · try rw [if_neg hn1] at hv
        by_cases hn2 : a1 = 2
        · try rw [if_pos hn2] at hv
          refine jT.tswI (st_X_state) rfl (by omega) (by omega) (off := 49) (by rw [hn2]; rfl) (tgt := 60) (by decide) ?_
          refine jG.blk (st_X_state) 3 (pc1 := 67) (L1 := [(0, (2, ((0 : Nat) : Int))), (1, (0, a1))]) (st1 := [(0, h 2 3)]) (h1 := h) rfl ?_
          cases hv
          exact jT.iret (st_X_state) rfl trivial
        · try rw [if_neg hn2] at hv
          by_cases hn3 : a1 = 3
          · try rw [if_pos hn3] at hv
            refine jT.tswI (st_X_state) rfl (by omega) (by omega) (off := 57) (by rw [hn3]; rfl) (tgt := 68) (by decide) ?_
            refine jG.blk (st_X_state) 3 (pc1 := 75) (L1 := [(0, (2, ((0 : Nat) : Int))), (1, (0, a1))]) (st1 := [(0, h 2 4)]) (h1 := h) rfl ?_
            cases hv
            exact jT.iret (st_X_state) rfl trivial
          · try rw [if_neg hn3] at hv
            by_cases hn4 : a1 = 4
            · try rw [if_pos hn4] at hv
              refine jT.tswI (st_X_state) rfl (by omega) (by omega) (off := 65) (by rw [hn4]; rfl) (tgt := 76) (by decide) ?_
              refine jG.blk (st_X_state) 3 (pc1 := 83) (L1 := [(0, (2, ((0 : Nat) : Int))), (1, (0, a1))]) (st1 := [(0, h 1 6)]) (h1 := h) rfl ?_
              cases hv
              exact jT.iret (st_X_state) rfl trivial
            · try rw [if_neg hn4] at hv
              refine jT.tswO (st_X_state) rfl (by omega) (tgt := 84) (by decide) ?_
              refine jG.blk (st_X_state) 1 (pc1 := 86) (L1 := [(0, (2, ((0 : Nat) : Int))), (1, (0, a1))]) (st1 := [(0, (-2))]) (h1 := h) rfl ?_
              cases hv
              exact jT.iret (st_X_state) rfl trivial
  · have hc : h 0 9 = 0 := Decidable.not_not.mp hc
    try rw [if_pos hc] at hv
    refine jG.blk (st_X_state) 1 (pc1 := 9) (L1 := [(0, (2, ((0 : Nat) : Int))), (1, (0, a1))]) (st1 := [(0, (-2))]) (h1 := h) rfl ?_
    cases hv
    exact jT.iret (st_X_state) rfl trivial
def f_X_moves (h : jH) : Option (Int × jH) := if h 0 9 = 0 then some ((-1), h) else (f_Mt_gather 11 h).bind fun v1 => some (v1.1, v1.2)
set_option maxRecDepth 100000 in
set_option maxHeartbeats 4000000 in
theorem C_X_moves {E : jE} {h : jH} {res : Int × jH} (hv : f_X_moves h = some res) : jC E M_X_moves [(2, ((0 : Nat) : Int))] h (some (0, res.1)) res.2 := by
  refine jC.of ok_X_moves.1 (by rw [jlg]; exact Nat.le_of_ble_eq_true rfl) ?_
  show jG E _ 0 [(0, (2, ((0 : Nat) : Int)))] [] h _ _
  unfold f_X_moves at hv
  refine jG.blk (st_X_moves) 2 (pc1 := 4) (L1 := [(0, (2, ((0 : Nat) : Int)))]) (st1 := [(0, h 0 9)]) (h1 := h) rfl ?_
  refine jT.if1 (st_X_moves) rfl (tgt := 21) (by decide) (fun hc => ?_) (fun hc => ?_)
  · have hc : h 0 9 = 0 := hc
    try rw [if_pos hc] at hv
    refine jG.blk (st_X_moves) 1 (pc1 := 22) (L1 := [(0, (2, ((0 : Nat) : Int)))]) (st1 := [(0, (-1))]) (h1 := h) rfl ?_
    cases hv
    exact jT.iret (st_X_moves) rfl trivial
  · have hc : ¬ (h 0 9 = 0) := hc
    try rw [if_neg hc] at hv
    refine jG.blk (st_X_moves) 4 (pc1 := 15) (L1 := [(0, (2, ((0 : Nat) : Int)))]) (st1 := [(2, ((2 : Nat) : Int)), (2, ((11 : Nat) : Int))]) (h1 := h) rfl ?_
    obtain ⟨v1, hq, hv⟩ := Option.bind_eq_some_iff.mp hv
    refine jT.cV (M1 := M_Mt_gather) (2, ((11 : Nat) : Int)) [(2, ((2 : Nat) : Int))] [] (st_X_moves) rfl rfl ok_Mt_gather rfl (Or.inl ⟨rfl, _, _, _, rfl, rfl⟩) (Nat.le_of_ble_eq_true rfl) (Nat.le_of_ble_eq_true rfl) rfl (Nat.le_of_ble_eq_true rfl) (C_Mt_gather (by decide) hq) ?_
    show jG E _ 18 [(0, (2, ((0 : Nat) : Int)))] [(0, v1.1)] v1.2 _ _
    refine jT.goto (st_X_moves) rfl (tgt := 22) (by decide) ?_
    cases hv
    exact jT.iret (st_X_moves) rfl trivial
def f_X_move (h : jH) (a1 : Int) : Option (Int × jH) := if h 0 9 = 0 then some ((-1), h) else if a1 < 0 then some ((-1), h) else (f_Mt_gather 11 h).bind fun v1 => if a1 < v1.1 then (f_Mt_codeOf v1.2 a1).bind fun v2 => some (v2, v1.2) else some ((-1), v1.2)
set_option maxRecDepth 100000 in
set_option maxHeartbeats 4000000 in
theorem C_X_move {E : jE} {h : jH} {a1 : Int} {res : Int × jH} (hv : f_X_move h a1 = some res) : jC E M_X_move [(2, ((0 : Nat) : Int)), (0, a1)] h (some (0, res.1)) res.2 := by
  refine jC.of ok_X_move.1 (by rw [jlg]; exact Nat.le_of_ble_eq_true rfl) ?_
  show jG E _ 0 [(0, (2, ((0 : Nat) : Int))), (1, (0, a1))] [] h _ _
  unfold f_X_move at hv
  refine jG.blk (st_X_move) 2 (pc1 := 4) (L1 := [(0, (2, ((0 : Nat) : Int))), (1, (0, a1))]) (st1 := [(0, h 0 9)]) (h1 := h) rfl ?_
  refine jT.if1 (st_X_move) rfl (tgt := 26) (by decide) (fun hc => ?_) (fun hc => ?_)
  · have hc : h 0 9 = 0 := hc
    try rw [if_pos hc] at hv
    refine jG.blk (st_X_move) 1 (pc1 := 27) (L1 := [(0, (2, ((0 : Nat) : Int))), (1, (0, a1))]) (st1 := [(0, (-1))]) (h1 := h) rfl ?_
    cases hv
    exact jT.iret (st_X_move) rfl trivial
  · have hc : ¬ (h 0 9 = 0) := hc
    try rw [if_neg hc] at hv
    refine jG.blk (st_X_move) 1 (pc1 := 8) (L1 := [(0, (2, ((0 : Nat) : Int))), (1, (0, a1))]) (st1 := [(0, a1)]) (h1 := h) rfl ?_
    refine jT.if1 (st_X_move) rfl (tgt := 26) (by decide) (fun hc => ?_) (fun hc => ?_)
    · have hc : a1 < 0 := hc
      try rw [if_pos hc] at hv
      refine jG.blk (st_X_move) 1 (pc1 := 27) (L1 := [(0, (2, ((0 : Nat) : Int))), (1, (0, a1))]) (st1 := [(0, (-1))]) (h1 := h) rfl ?_
      cases hv
      exact jT.iret (st_X_move) rfl trivial
    · have hc : ¬ (a1 < 0) := hc
      try rw [if_neg hc] at hv
      refine jG.blk (st_X_move) 5 (pc1 := 20) (L1 := [(0, (2, ((0 : Nat) : Int))), (1, (0, a1))]) (st1 := [(2, ((2 : Nat) : Int)), (2, ((11 : Nat) : Int)), (0, a1)]) (h1 := h) rfl ?_
      obtain ⟨v1, hq, hv⟩ := Option.bind_eq_some_iff.mp hv
      refine jT.cV (M1 := M_Mt_gather) (2, ((11 : Nat) : Int)) [(2, ((2 : Nat) : Int))] [(0, a1)] (st_X_move) rfl rfl ok_Mt_gather rfl (Or.inl ⟨rfl, _, _, _, rfl, rfl⟩) (Nat.le_of_ble_eq_true rfl) (Nat.le_of_ble_eq_true rfl) rfl (Nat.le_of_ble_eq_true rfl) (C_Mt_gather (by decide) hq) ?_
      show jG E _ 23 [(0, (2, ((0 : Nat) : Int))), (1, (0, a1))] [(0, v1.1), (0, a1)] v1.2 _ _
      refine jT.if2 (st_X_move) rfl (tgt := 28) (by decide) (fun hc => ?_) (fun hc => ?_)
      · have hc : a1 < v1.1 := hc
        try rw [if_pos hc] at hv
        refine jG.blk (st_X_move) 3 (pc1 := 33) (L1 := [(0, (2, ((0 : Nat) : Int))), (1, (0, a1))]) (st1 := [(0, a1), (2, ((11 : Nat) : Int))]) (h1 := v1.2) rfl ?_
        obtain ⟨v2, hq, hv⟩ := Option.bind_eq_some_iff.mp hv
        refine jT.cV (M1 := M_Mt_codeOf) (2, ((11 : Nat) : Int)) [(0, a1)] [] (st_X_move) rfl rfl ok_Mt_codeOf rfl (Or.inl ⟨rfl, _, _, _, rfl, rfl⟩) (Nat.le_of_ble_eq_true rfl) (Nat.le_of_ble_eq_true rfl) rfl (Nat.le_of_ble_eq_true rfl) (C_Mt_codeOf hq) ?_
        show jG E _ 36 [(0, (2, ((0 : Nat) : Int))), (1, (0, a1))] [(0, v2)] v1.2 _ _
        cases hv
        exact jT.iret (st_X_move) rfl trivial
      · have hc : ¬ (a1 < v1.1) := hc
        try rw [if_neg hc] at hv
        refine jG.blk (st_X_move) 1 (pc1 := 27) (L1 := [(0, (2, ((0 : Nat) : Int))), (1, (0, a1))]) (st1 := [(0, (-1))]) (h1 := v1.2) rfl ?_
        cases hv
        exact jT.iret (st_X_move) rfl trivial
def f_X_make (h : jH) (a1 : Int) : Option (Int × jH) := if h 0 9 = 0 then some (0, h) else if h 1 6 < 300 then (f_Mt_gather 11 h).bind fun v1 => (f_Mt_holds v1.2 a1).bind fun v2 => if v2 = 0 then some (0, v1.2) else (f_Gm_play v1.2 a1).bind fun v3 => (f_Bd_passingTakers v3).bind fun v4 => (f_Ps_enter v4.2 (v3 1 6) v4.1).bind fun v5 => some (1, v5) else some (0, h)
set_option maxRecDepth 100000 in
set_option maxHeartbeats 4000000 in
theorem C_X_make {E : jE} {h : jH} {a1 : Int} {res : Int × jH} (hv : f_X_make h a1 = some res) : jC E M_X_make [(2, ((0 : Nat) : Int)), (0, a1)] h (some (0, res.1)) res.2 := by
  refine jC.of ok_X_make.1 (by rw [jlg]; exact Nat.le_of_ble_eq_true rfl) ?_
  show jG E _ 0 [(0, (2, ((0 : Nat) : Int))), (1, (0, a1))] [] h _ _
  unfold f_X_make at hv
  refine jG.blk (st_X_make) 2 (pc1 := 4) (L1 := [(0, (2, ((0 : Nat) : Int))), (1, (0, a1))]) (st1 := [(0, h 0 9)]) (h1 := h) rfl ?_
  refine jT.if1 (st_X_make) rfl (tgt := 20) (by decide) (fun hc => ?_) (fun hc => ?_)
  · have hc : h 0 9 = 0 := hc
    try rw [if_pos hc] at hv
    refine jG.blk (st_X_make) 1 (pc1 := 21) (L1 := [(0, (2, ((0 : Nat) : Int))), (1, (0, a1))]) (st1 := [(0, 0)]) (h1 := h) rfl ?_
    cases hv
    exact jT.iret (st_X_make) rfl trivial
  · have hc : ¬ (h 0 9 = 0) := hc
    try rw [if_neg hc] at hv
    refine jG.blk (st_X_make) 4 (pc1 := 17) (L1 := [(0, (2, ((0 : Nat) : Int))), (1, (0, a1))]) (st1 := [(0, 300), (0, h 1 6)]) (h1 := h) rfl ?_
    refine jT.if2 (st_X_make) rfl (tgt := 22) (by decide) (fun hc => ?_) (fun hc => ?_)
    · have hc : h 1 6 < 300 := hc
      try rw [if_pos hc] at hv
      refine jG.blk (st_X_make) 4 (pc1 := 30) (L1 := [(0, (2, ((0 : Nat) : Int))), (1, (0, a1))]) (st1 := [(2, ((2 : Nat) : Int)), (2, ((11 : Nat) : Int))]) (h1 := h) rfl ?_
      obtain ⟨v1, hq, hv⟩ := Option.bind_eq_some_iff.mp hv
      refine jT.cV (M1 := M_Mt_gather) (2, ((11 : Nat) : Int)) [(2, ((2 : Nat) : Int))] [] (st_X_make) rfl rfl ok_Mt_gather rfl (Or.inl ⟨rfl, _, _, _, rfl, rfl⟩) (Nat.le_of_ble_eq_true rfl) (Nat.le_of_ble_eq_true rfl) rfl (Nat.le_of_ble_eq_true rfl) (C_Mt_gather (by decide) hq) ?_
      show jG E _ 33 [(0, (2, ((0 : Nat) : Int))), (1, (0, a1))] [(0, v1.1)] v1.2 _ _
      refine jG.blk (st_X_make) 4 (pc1 := 39) (L1 := [(0, (2, ((0 : Nat) : Int))), (1, (0, a1))]) (st1 := [(0, a1), (2, ((11 : Nat) : Int))]) (h1 := v1.2) rfl ?_
      obtain ⟨v2, hq, hv⟩ := Option.bind_eq_some_iff.mp hv
      refine jT.cV (M1 := M_Mt_holds) (2, ((11 : Nat) : Int)) [(0, a1)] [] (st_X_make) rfl rfl ok_Mt_holds rfl (Or.inl ⟨rfl, _, _, _, rfl, rfl⟩) (Nat.le_of_ble_eq_true rfl) (Nat.le_of_ble_eq_true rfl) rfl (Nat.le_of_ble_eq_true rfl) (C_Mt_holds hq) ?_
      show jG E _ 42 [(0, (2, ((0 : Nat) : Int))), (1, (0, a1))] [(0, v2)] v1.2 _ _
      refine jT.if1 (st_X_make) rfl (tgt := 47) (by decide) (fun hc => ?_) (fun hc => ?_)
      · have hc : ¬ (v2 = 0) := hc
        try rw [if_neg hc] at hv
        refine jG.blk (st_X_make) 3 (pc1 := 52) (L1 := [(0, (2, ((0 : Nat) : Int))), (1, (0, a1))]) (st1 := [(0, a1), (2, ((1 : Nat) : Int))]) (h1 := v1.2) rfl ?_
        obtain ⟨v3, hq, hv⟩ := Option.bind_eq_some_iff.mp hv
        refine jT.cV (M1 := M_Gm_play) (2, ((1 : Nat) : Int)) [(0, a1)] [] (st_X_make) rfl rfl ok_Gm_play rfl (Or.inl ⟨rfl, _, _, _, rfl, rfl⟩) (Nat.le_of_ble_eq_true rfl) (Nat.le_of_ble_eq_true rfl) rfl (Nat.le_of_ble_eq_true rfl) (C_Gm_play hq) ?_
        show jG E _ 55 [(0, (2, ((0 : Nat) : Int))), (1, (0, a1))] [] v3 _ _
        refine jG.blk (st_X_make) 9 (pc1 := 74) (L1 := [(0, (2, ((0 : Nat) : Int))), (1, (0, a1))]) (st1 := [(2, ((2 : Nat) : Int)), (2, ((2 : Nat) : Int)), (0, v3 1 6), (2, ((9 : Nat) : Int))]) (h1 := v3) rfl ?_
        obtain ⟨v4, hq, hv⟩ := Option.bind_eq_some_iff.mp hv
        refine jT.cV (M1 := M_Bd_passingTakers) (2, ((2 : Nat) : Int)) [] [(2, ((2 : Nat) : Int)), (0, v3 1 6), (2, ((9 : Nat) : Int))] (st_X_make) rfl rfl ok_Bd_passingTakers rfl (Or.inl ⟨rfl, _, _, _, rfl, rfl⟩) (Nat.le_of_ble_eq_true rfl) (Nat.le_of_ble_eq_true rfl) rfl (Nat.le_of_ble_eq_true rfl) (C_Bd_passingTakers hq) ?_
        show jG E _ 77 [(0, (2, ((0 : Nat) : Int))), (1, (0, a1))] [(1, v4.1), (2, ((2 : Nat) : Int)), (0, v3 1 6), (2, ((9 : Nat) : Int))] v4.2 _ _
        obtain ⟨v5, hq, hv⟩ := Option.bind_eq_some_iff.mp hv
        refine jT.cV (M1 := M_Ps_enter) (2, ((9 : Nat) : Int)) [(0, v3 1 6), (2, ((2 : Nat) : Int)), (1, v4.1)] [] (st_X_make) rfl rfl ok_Ps_enter rfl (Or.inl ⟨rfl, _, _, _, rfl, rfl⟩) (Nat.le_of_ble_eq_true rfl) (Nat.le_of_ble_eq_true rfl) rfl (Nat.le_of_ble_eq_true rfl) (C_Ps_enter hq) ?_
        show jG E _ 80 [(0, (2, ((0 : Nat) : Int))), (1, (0, a1))] [] v5 _ _
        refine jG.blk (st_X_make) 1 (pc1 := 81) (L1 := [(0, (2, ((0 : Nat) : Int))), (1, (0, a1))]) (st1 := [(0, 1)]) (h1 := v5) rfl ?_
        cases hv
        exact jT.iret (st_X_make) rfl trivial
      · have hc : v2 = 0 := Decidable.not_not.mp hc
        try rw [if_pos hc] at hv
        refine jG.blk (st_X_make) 1 (pc1 := 46) (L1 := [(0, (2, ((0 : Nat) : Int))), (1, (0, a1))]) (st1 := [(0, 0)]) (h1 := v1.2) rfl ?_
        cases hv
        exact jT.iret (st_X_make) rfl trivial
    · have hc : ¬ (h 1 6 < 300) := hc
      try rw [if_neg hc] at hv
      refine jG.blk (st_X_make) 1 (pc1 := 21) (L1 := [(0, (2, ((0 : Nat) : Int))), (1, (0, a1))]) (st1 := [(0, 0)]) (h1 := h) rfl ?_
      cases hv
      exact jT.iret (st_X_make) rfl trivial
def f_X_back (h : jH) : Option (Int × jH) := if h 1 6 = 0 then some (0, h) else (f_Gm_takeBack h).bind fun v1 => some (1, v1)
set_option maxRecDepth 100000 in
set_option maxHeartbeats 4000000 in
theorem C_X_back {E : jE} {h : jH} {res : Int × jH} (hv : f_X_back h = some res) : jC E M_X_back [(2, ((0 : Nat) : Int))] h (some (0, res.1)) res.2 := by
  refine jC.of ok_X_back.1 (by rw [jlg]; exact Nat.le_of_ble_eq_true rfl) ?_
  show jG E _ 0 [(0, (2, ((0 : Nat) : Int)))] [] h _ _
  unfold f_X_back at hv
  refine jG.blk (st_X_back) 3 (pc1 := 7) (L1 := [(0, (2, ((0 : Nat) : Int)))]) (st1 := [(0, h 1 6)]) (h1 := h) rfl ?_
  refine jT.if1 (st_X_back) rfl (tgt := 12) (by decide) (fun hc => ?_) (fun hc => ?_)
  · have hc : ¬ (h 1 6 = 0) := hc
    try rw [if_neg hc] at hv
    refine jG.blk (st_X_back) 2 (pc1 := 16) (L1 := [(0, (2, ((0 : Nat) : Int)))]) (st1 := [(2, ((1 : Nat) : Int))]) (h1 := h) rfl ?_
    obtain ⟨v1, hq, hv⟩ := Option.bind_eq_some_iff.mp hv
    refine jT.cV (M1 := M_Gm_takeBack) (2, ((1 : Nat) : Int)) [] [] (st_X_back) rfl rfl ok_Gm_takeBack rfl (Or.inl ⟨rfl, _, _, _, rfl, rfl⟩) (Nat.le_of_ble_eq_true rfl) (Nat.le_of_ble_eq_true rfl) rfl (Nat.le_of_ble_eq_true rfl) (C_Gm_takeBack hq) ?_
    show jG E _ 19 [(0, (2, ((0 : Nat) : Int)))] [] v1 _ _
    refine jG.blk (st_X_back) 1 (pc1 := 20) (L1 := [(0, (2, ((0 : Nat) : Int)))]) (st1 := [(0, 1)]) (h1 := v1) rfl ?_
    cases hv
    exact jT.iret (st_X_back) rfl trivial
  · have hc : h 1 6 = 0 := Decidable.not_not.mp hc
    try rw [if_pos hc] at hv
    refine jG.blk (st_X_back) 1 (pc1 := 11) (L1 := [(0, (2, ((0 : Nat) : Int)))]) (st1 := [(0, 0)]) (h1 := h) rfl ?_
    cases hv
    exact jT.iret (st_X_back) rfl trivial
def f_X_attackers (h : jH) (a1 : Int) (a2 : Int) : Option (Int) := (f_X_isSquare h a1).bind fun v1 => if v1 = 0 then some 0 else (f_X_isSide h a2).bind fun v2 => if v2 = 0 then some 0 else (f_Bd_attacksOn 2 h a1 a2).bind fun v3 => some v3
set_option maxRecDepth 100000 in
set_option maxHeartbeats 4000000 in
theorem C_X_attackers {E : jE} {h : jH} {a1 : Int} {a2 : Int} {res : Int} (hv : f_X_attackers h a1 a2 = some res) : jC E M_X_attackers [(2, ((0 : Nat) : Int)), (0, a1), (0, a2)] h (some (1, res)) h := by
  refine jC.of ok_X_attackers.1 (by rw [jlg]; exact Nat.le_of_ble_eq_true rfl) ?_
  show jG E _ 0 [(0, (2, ((0 : Nat) : Int))), (1, (0, a1)), (2, (0, a2))] [] h _ _
  unfold f_X_attackers at hv
  refine jG.blk (st_X_attackers) 1 (pc1 := 1) (L1 := [(0, (2, ((0 : Nat) : Int))), (1, (0, a1)), (2, (0, a2))]) (st1 := [(0, a1)]) (h1 := h) rfl ?_
  obtain ⟨v1, hq, hv⟩ := Option.bind_eq_some_iff.mp hv
  refine jT.cS (M1 := M_X_isSquare) [(0, a1)] [] (st_X_attackers) rfl rfl ok_X_isSquare rfl (Nat.le_of_ble_eq_true rfl) (Nat.le_of_ble_eq_true rfl) rfl (Nat.le_of_ble_eq_true rfl) (C_X_isSquare hq) ?_
  show jG E _ 4 [(0, (2, ((0 : Nat) : Int))), (1, (0, a1)), (2, (0, a2))] [(0, v1)] h _ _
  refine jT.if1 (st_X_attackers) rfl (tgt := 14) (by decide) (fun hc => ?_) (fun hc => ?_)
  · have hc : v1 = 0 := hc
    try rw [if_pos hc] at hv
    refine jG.blk (st_X_attackers) 1 (pc1 := 15) (L1 := [(0, (2, ((0 : Nat) : Int))), (1, (0, a1)), (2, (0, a2))]) (st1 := [(1, 0)]) (h1 := h) rfl ?_
    cases hv
    exact jT.lret (st_X_attackers) rfl trivial
  · have hc : ¬ (v1 = 0) := hc
    try rw [if_neg hc] at hv
    refine jG.blk (st_X_attackers) 1 (pc1 := 8) (L1 := [(0, (2, ((0 : Nat) : Int))), (1, (0, a1)), (2, (0, a2))]) (st1 := [(0, a2)]) (h1 := h) rfl ?_
    obtain ⟨v2, hq, hv⟩ := Option.bind_eq_some_iff.mp hv
    refine jT.cS (M1 := M_X_isSide) [(0, a2)] [] (st_X_attackers) rfl rfl ok_X_isSide rfl (Nat.le_of_ble_eq_true rfl) (Nat.le_of_ble_eq_true rfl) rfl (Nat.le_of_ble_eq_true rfl) (C_X_isSide hq) ?_
    show jG E _ 11 [(0, (2, ((0 : Nat) : Int))), (1, (0, a1)), (2, (0, a2))] [(0, v2)] h _ _
    refine jT.if1 (st_X_attackers) rfl (tgt := 16) (by decide) (fun hc => ?_) (fun hc => ?_)
    · have hc : ¬ (v2 = 0) := hc
      try rw [if_neg hc] at hv
      refine jG.blk (st_X_attackers) 4 (pc1 := 22) (L1 := [(0, (2, ((0 : Nat) : Int))), (1, (0, a1)), (2, (0, a2))]) (st1 := [(0, a2), (0, a1), (2, ((2 : Nat) : Int))]) (h1 := h) rfl ?_
      obtain ⟨v3, hq, hv⟩ := Option.bind_eq_some_iff.mp hv
      refine jT.cV (M1 := M_Bd_attacksOn) (2, ((2 : Nat) : Int)) [(0, a1), (0, a2)] [] (st_X_attackers) rfl rfl ok_Bd_attacksOn rfl (Or.inl ⟨rfl, _, _, _, rfl, rfl⟩) (Nat.le_of_ble_eq_true rfl) (Nat.le_of_ble_eq_true rfl) rfl (Nat.le_of_ble_eq_true rfl) (C_Bd_attacksOn (by decide) hq) ?_
      show jG E _ 25 [(0, (2, ((0 : Nat) : Int))), (1, (0, a1)), (2, (0, a2))] [(1, v3)] h _ _
      cases hv
      exact jT.lret (st_X_attackers) rfl trivial
    · have hc : v2 = 0 := Decidable.not_not.mp hc
      try rw [if_pos hc] at hv
      refine jG.blk (st_X_attackers) 1 (pc1 := 15) (L1 := [(0, (2, ((0 : Nat) : Int))), (1, (0, a1)), (2, (0, a2))]) (st1 := [(1, 0)]) (h1 := h) rfl ?_
      cases hv
      exact jT.lret (st_X_attackers) rfl trivial
def f_X_checked (h : jH) : Option (Int) := if h 0 9 = 0 then some (-1) else (f_Bd_isKingAttacked 2 h (h 2 1)).bind fun v1 => some (if v1 = 0 then 0 else 1)
set_option maxRecDepth 100000 in
set_option maxHeartbeats 4000000 in
theorem C_X_checked {E : jE} {h : jH} {res : Int} (hv : f_X_checked h = some res) : jC E M_X_checked [(2, ((0 : Nat) : Int))] h (some (0, res)) h := by
  refine jC.of ok_X_checked.1 (by rw [jlg]; exact Nat.le_of_ble_eq_true rfl) ?_
  show jG E _ 0 [(0, (2, ((0 : Nat) : Int)))] [] h _ _
  unfold f_X_checked at hv
  refine jG.blk (st_X_checked) 2 (pc1 := 4) (L1 := [(0, (2, ((0 : Nat) : Int)))]) (st1 := [(0, h 0 9)]) (h1 := h) rfl ?_
  refine jT.if1 (st_X_checked) rfl (tgt := 9) (by decide) (fun hc => ?_) (fun hc => ?_)
  · have hc : ¬ (h 0 9 = 0) := hc
    try rw [if_neg hc] at hv
    refine jG.blk (st_X_checked) 5 (pc1 := 20) (L1 := [(0, (2, ((0 : Nat) : Int)))]) (st1 := [(0, h 2 1), (2, ((2 : Nat) : Int))]) (h1 := h) rfl ?_
    obtain ⟨v1, hq, hv⟩ := Option.bind_eq_some_iff.mp hv
    refine jT.cV (M1 := M_Bd_isKingAttacked) (2, ((2 : Nat) : Int)) [(0, h 2 1)] [] (st_X_checked) rfl rfl ok_Bd_isKingAttacked rfl (Or.inl ⟨rfl, _, _, _, rfl, rfl⟩) (Nat.le_of_ble_eq_true rfl) (Nat.le_of_ble_eq_true rfl) rfl (Nat.le_of_ble_eq_true rfl) (C_Bd_isKingAttacked (by decide) hq) ?_
    show jG E _ 23 [(0, (2, ((0 : Nat) : Int)))] [(0, v1)] h _ _
    refine jT.if1 (st_X_checked) rfl (tgt := 30) (by decide) (fun hc => ?_) (fun hc => ?_)
    · have hc : v1 = 0 := hc
      try rw [if_pos hc] at hv
      refine jG.blk (st_X_checked) 1 (pc1 := 31) (L1 := [(0, (2, ((0 : Nat) : Int)))]) (st1 := [(0, 0)]) (h1 := h) rfl ?_
      cases hv
      exact jT.iret (st_X_checked) rfl trivial
    · have hc : ¬ (v1 = 0) := hc
      try rw [if_neg hc] at hv
      refine jG.blk (st_X_checked) 1 (pc1 := 27) (L1 := [(0, (2, ((0 : Nat) : Int)))]) (st1 := [(0, 1)]) (h1 := h) rfl ?_
      refine jT.goto (st_X_checked) rfl (tgt := 31) (by decide) ?_
      cases hv
      exact jT.iret (st_X_checked) rfl trivial
  · have hc : h 0 9 = 0 := Decidable.not_not.mp hc
    try rw [if_pos hc] at hv
    refine jG.blk (st_X_checked) 1 (pc1 := 8) (L1 := [(0, (2, ((0 : Nat) : Int)))]) (st1 := [(0, (-1))]) (h1 := h) rfl ?_
    cases hv
    exact jT.iret (st_X_checked) rfl trivial
def f_X_status (h : jH) : Option (Int × jH) := if h 0 9 = 0 then some ((-1), h) else (f_Mt_gather 11 h).bind fun v1 => if v1.1 = 0 then (f_Bd_isKingAttacked 2 v1.2 (v1.2 2 1)).bind fun v4 => some (if v4 = 0 then (2, v1.2) else (1, v1.2)) else if v1.2 2 4 < 150 then (f_Ps_countSame v1.2 (v1.2 1 6)).bind fun v2 => if v2 < 5 then (f_Bd_isBare v1.2).bind fun v3 => some (if v3 = 0 then (0, v1.2) else (5, v1.2)) else some (4, v1.2) else some (3, v1.2)
set_option maxRecDepth 100000 in
set_option maxHeartbeats 4000000 in
theorem C_X_status {E : jE} {h : jH} {res : Int × jH} (hv : f_X_status h = some res) : jC E M_X_status [(2, ((0 : Nat) : Int))] h (some (0, res.1)) res.2 := by
  refine jC.of ok_X_status.1 (by rw [jlg]; exact Nat.le_of_ble_eq_true rfl) ?_
  show jG E _ 0 [(0, (2, ((0 : Nat) : Int)))] [] h _ _
  unfold f_X_status at hv
  refine jG.blk (st_X_status) 2 (pc1 := 4) (L1 := [(0, (2, ((0 : Nat) : Int)))]) (st1 := [(0, h 0 9)]) (h1 := h) rfl ?_
  refine jT.if1 (st_X_status) rfl (tgt := 9) (by decide) (fun hc => ?_) (fun hc => ?_)
  · have hc : ¬ (h 0 9 = 0) := hc
    try rw [if_neg hc] at hv
    refine jG.blk (st_X_status) 4 (pc1 := 17) (L1 := [(0, (2, ((0 : Nat) : Int)))]) (st1 := [(2, ((2 : Nat) : Int)), (2, ((11 : Nat) : Int))]) (h1 := h) rfl ?_
    obtain ⟨v1, hq, hv⟩ := Option.bind_eq_some_iff.mp hv
    refine jT.cV (M1 := M_Mt_gather) (2, ((11 : Nat) : Int)) [(2, ((2 : Nat) : Int))] [] (st_X_status) rfl rfl ok_Mt_gather rfl (Or.inl ⟨rfl, _, _, _, rfl, rfl⟩) (Nat.le_of_ble_eq_true rfl) (Nat.le_of_ble_eq_true rfl) rfl (Nat.le_of_ble_eq_true rfl) (C_Mt_gather (by decide) hq) ?_
    show jG E _ 20 [(0, (2, ((0 : Nat) : Int)))] [(0, v1.1)] v1.2 _ _
    refine jT.if1 (st_X_status) rfl (tgt := 46) (by decide) (fun hc => ?_) (fun hc => ?_)
    · have hc : ¬ (v1.1 = 0) := hc
      try rw [if_neg hc] at hv
      refine jG.blk (st_X_status) 4 (pc1 := 56) (L1 := [(0, (2, ((0 : Nat) : Int)))]) (st1 := [(0, 150), (0, v1.2 2 4)]) (h1 := v1.2) rfl ?_
      refine jT.if2 (st_X_status) rfl (tgt := 61) (by decide) (fun hc => ?_) (fun hc => ?_)
      · have hc : v1.2 2 4 < 150 := hc
        try rw [if_pos hc] at hv
        refine jG.blk (st_X_status) 5 (pc1 := 72) (L1 := [(0, (2, ((0 : Nat) : Int)))]) (st1 := [(0, v1.2 1 6), (2, ((9 : Nat) : Int))]) (h1 := v1.2) rfl ?_
        obtain ⟨v2, hq, hv⟩ := Option.bind_eq_some_iff.mp hv
        refine jT.cV (M1 := M_Ps_countSame) (2, ((9 : Nat) : Int)) [(0, v1.2 1 6)] [] (st_X_status) rfl rfl ok_Ps_countSame rfl (Or.inl ⟨rfl, _, _, _, rfl, rfl⟩) (Nat.le_of_ble_eq_true rfl) (Nat.le_of_ble_eq_true rfl) rfl (Nat.le_of_ble_eq_true rfl) (C_Ps_countSame hq) ?_
        show jG E _ 75 [(0, (2, ((0 : Nat) : Int)))] [(0, v2)] v1.2 _ _
        refine jG.blk (st_X_status) 1 (pc1 := 76) (L1 := [(0, (2, ((0 : Nat) : Int)))]) (st1 := [(0, 5), (0, v2)]) (h1 := v1.2) rfl ?_
        refine jT.if2 (st_X_status) rfl (tgt := 81) (by decide) (fun hc => ?_) (fun hc => ?_)
        · have hc : v2 < 5 := hc
          try rw [if_pos hc] at hv
          refine jG.blk (st_X_status) 2 (pc1 := 85) (L1 := [(0, (2, ((0 : Nat) : Int)))]) (st1 := [(2, ((2 : Nat) : Int))]) (h1 := v1.2) rfl ?_
          obtain ⟨v3, hq, hv⟩ := Option.bind_eq_some_iff.mp hv
          refine jT.cV (M1 := M_Bd_isBare) (2, ((2 : Nat) : Int)) [] [] (st_X_status) rfl rfl ok_Bd_isBare rfl (Or.inl ⟨rfl, _, _, _, rfl, rfl⟩) (Nat.le_of_ble_eq_true rfl) (Nat.le_of_ble_eq_true rfl) rfl (Nat.le_of_ble_eq_true rfl) (C_Bd_isBare hq) ?_
          show jG E _ 88 [(0, (2, ((0 : Nat) : Int)))] [(0, v3)] v1.2 _ _
          refine jT.if1 (st_X_status) rfl (tgt := 95) (by decide) (fun hc => ?_) (fun hc => ?_)
          · have hc : v3 = 0 := hc
            try rw [if_pos hc] at hv
            refine jG.blk (st_X_status) 1 (pc1 := 96) (L1 := [(0, (2, ((0 : Nat) : Int)))]) (st1 := [(0, 0)]) (h1 := v1.2) rfl ?_
            cases hv
            exact jT.iret (st_X_status) rfl trivial
          · have hc : ¬ (v3 = 0) := hc
            try rw [if_neg hc] at hv
            refine jG.blk (st_X_status) 1 (pc1 := 92) (L1 := [(0, (2, ((0 : Nat) : Int)))]) (st1 := [(0, 5)]) (h1 := v1.2) rfl ?_
            refine jT.goto (st_X_status) rfl (tgt := 96) (by decide) ?_
            cases hv
            exact jT.iret (st_X_status) rfl trivial
        · have hc : ¬ (v2 < 5) := hc
          try rw [if_neg hc] at hv
          refine jG.blk (st_X_status) 1 (pc1 := 80) (L1 := [(0, (2, ((0 : Nat) : Int)))]) (st1 := [(0, 4)]) (h1 := v1.2) rfl ?_
          cases hv
          exact jT.iret (st_X_status) rfl trivial
      · have hc : ¬ (v1.2 2 4 < 150) := hc
        try rw [if_neg hc] at hv
        refine jG.blk (st_X_status) 1 (pc1 := 60) (L1 := [(0, (2, ((0 : Nat) : Int)))]) (st1 := [(0, 3)]) (h1 := v1.2) rfl ?_
        cases hv
        exact jT.iret (st_X_status) rfl trivial
    · have hc : v1.1 = 0 := Decidable.not_not.mp hc
      try rw [if_pos hc] at hv
      refine jG.blk (st_X_status) 5 (pc1 := 34) (L1 := [(0, (2, ((0 : Nat) : Int)))]) (st1 := [(0, v1.2 2 1), (2, ((2 : Nat) : Int))]) (h1 := v1.2) rfl ?_
      obtain ⟨v4, hq, hv⟩ := Option.bind_eq_some_iff.mp hv
      refine jT.cV (M1 := M_Bd_isKingAttacked) (2, ((2 : Nat) : Int)) [(0, v1.2 2 1)] [] (st_X_status) rfl rfl ok_Bd_isKingAttacked rfl (Or.inl ⟨rfl, _, _, _, rfl, rfl⟩) (Nat.le_of_ble_eq_true rfl) (Nat.le_of_ble_eq_true rfl) rfl (Nat.le_of_ble_eq_true rfl) (C_Bd_isKingAttacked (by decide) hq) ?_
      show jG E _ 37 [(0, (2, ((0 : Nat) : Int)))] [(0, v4)] v1.2 _ _
      refine jT.if1 (st_X_status) rfl (tgt := 44) (by decide) (fun hc => ?_) (fun hc => ?_)
      · have hc : v4 = 0 := hc
        try rw [if_pos hc] at hv
        refine jG.blk (st_X_status) 1 (pc1 := 45) (L1 := [(0, (2, ((0 : Nat) : Int)))]) (st1 := [(0, 2)]) (h1 := v1.2) rfl ?_
        cases hv
        exact jT.iret (st_X_status) rfl trivial
      · have hc : ¬ (v4 = 0) := hc
        try rw [if_neg hc] at hv
        refine jG.blk (st_X_status) 1 (pc1 := 41) (L1 := [(0, (2, ((0 : Nat) : Int)))]) (st1 := [(0, 1)]) (h1 := v1.2) rfl ?_
        refine jT.goto (st_X_status) rfl (tgt := 45) (by decide) ?_
        cases hv
        exact jT.iret (st_X_status) rfl trivial
  · have hc : h 0 9 = 0 := Decidable.not_not.mp hc
    try rw [if_pos hc] at hv
    refine jG.blk (st_X_status) 1 (pc1 := 8) (L1 := [(0, (2, ((0 : Nat) : Int)))]) (st1 := [(0, (-1))]) (h1 := h) rfl ?_
    cases hv
    exact jT.iret (st_X_status) rfl trivial
def f_X_seen (h : jH) : Option (Int) := if h 0 9 = 0 then some (-1) else (f_Ps_countSame h (h 1 6)).bind fun v1 => some v1
set_option maxRecDepth 100000 in
set_option maxHeartbeats 4000000 in
theorem C_X_seen {E : jE} {h : jH} {res : Int} (hv : f_X_seen h = some res) : jC E M_X_seen [(2, ((0 : Nat) : Int))] h (some (0, res)) h := by
  refine jC.of ok_X_seen.1 (by rw [jlg]; exact Nat.le_of_ble_eq_true rfl) ?_
  show jG E _ 0 [(0, (2, ((0 : Nat) : Int)))] [] h _ _
  unfold f_X_seen at hv
  refine jG.blk (st_X_seen) 2 (pc1 := 4) (L1 := [(0, (2, ((0 : Nat) : Int)))]) (st1 := [(0, h 0 9)]) (h1 := h) rfl ?_
  refine jT.if1 (st_X_seen) rfl (tgt := 24) (by decide) (fun hc => ?_) (fun hc => ?_)
  · have hc : h 0 9 = 0 := hc
    try rw [if_pos hc] at hv
    refine jG.blk (st_X_seen) 1 (pc1 := 25) (L1 := [(0, (2, ((0 : Nat) : Int)))]) (st1 := [(0, (-1))]) (h1 := h) rfl ?_
    cases hv
    exact jT.iret (st_X_seen) rfl trivial
  · have hc : ¬ (h 0 9 = 0) := hc
    try rw [if_neg hc] at hv
    refine jG.blk (st_X_seen) 5 (pc1 := 18) (L1 := [(0, (2, ((0 : Nat) : Int)))]) (st1 := [(0, h 1 6), (2, ((9 : Nat) : Int))]) (h1 := h) rfl ?_
    obtain ⟨v1, hq, hv⟩ := Option.bind_eq_some_iff.mp hv
    refine jT.cV (M1 := M_Ps_countSame) (2, ((9 : Nat) : Int)) [(0, h 1 6)] [] (st_X_seen) rfl rfl ok_Ps_countSame rfl (Or.inl ⟨rfl, _, _, _, rfl, rfl⟩) (Nat.le_of_ble_eq_true rfl) (Nat.le_of_ble_eq_true rfl) rfl (Nat.le_of_ble_eq_true rfl) (C_Ps_countSame hq) ?_
    show jG E _ 21 [(0, (2, ((0 : Nat) : Int)))] [(0, v1)] h _ _
    refine jT.goto (st_X_seen) rfl (tgt := 25) (by decide) ?_
    cases hv
    exact jT.iret (st_X_seen) rfl trivial
def f_X_lines_lp48 (x4 : Int) (k : Int → Int → jH → Option (Int × jH)) : Nat → Int → Int → jH → Option (Int × jH)
  | 0, _, _, _ => none
  | n + 1, l2, l3, h5 => if x4 ≤ l3 then k l2 l3 h5 else (f_Mt_codeOf h5 l3).bind fun v6 => (f_Gm_play h5 v6).bind fun v7 => (f_Mt_gather 14 v7).bind fun v8 => (f_Gm_takeBack v8.2).bind fun v9 => f_X_lines_lp48 x4 k n (jadd l2 v8.1) (jadd l3 1) v9
def f_X_lines (h : jH) (a1 : Int) : Option (Int × jH) := if h 0 9 = 0 then some ((-1), h) else if a1 < 0 then some ((-1), h) else if a1 ≤ 2 then if a1 = 0 then some (1, h) else (f_Mt_gather 11 h).bind fun v1 => if a1 = 1 then some (v1.1, v1.2) else f_X_lines_lp48 v1.1 (fun l10 l11 h12 => some (l10, h12)) 30000 0 0 v1.2 else some ((-1), h)
set_option maxRecDepth 100000 in
set_option maxHeartbeats 4000000 in
theorem f_X_lines_lp48_ok (E : jE) {x4 : Int} {k : Int → Int → jH → Option (Int × jH)} (hk : ∀ (l2 : Int) (l3 : Int) (h5 : jH) (res : Int × jH), k l2 l3 h5 = some res → jG E M_X_lines 97 [(3, (0, l2))] [] h5 (some (0, res.1)) res.2) : ∀ (n : Nat) (l2 : Int) (l3 : Int) (h5 : jH) (res : Int × jH), f_X_lines_lp48 x4 k n l2 l3 h5 = some res → jG E M_X_lines 48 [(0, (2, ((0 : Nat) : Int))), (2, (0, x4)), (3, (0, l2)), (4, (0, l3))] [] h5 (some (0, res.1)) res.2 := by
  intro n
  induction n with
  | zero => intro l2 l3 h5 res hv; cases hv
  | succ n ih =>
    intro l2 l3 h5 res hv
    rw [f_X_lines_lp48] at hv
    refine jG.blk (st_X_lines) 2 (pc1 := 51) (L1 := [(0, (2, ((0 : Nat) : Int))), (2, (0, x4)), (3, (0, l2)), (4, (0, l3))]) (st1 := [(0, x4), (0, l3)]) (h1 := h5) rfl ?_
    refine jT.if2 (st_X_lines) rfl (tgt := 97) (by decide) (fun hc => ?_) (fun hc => ?_)
    · have hc : x4 ≤ l3 := hc
      try rw [if_pos hc] at hv
      refine jG.subp [2] (L1 := [(3, (0, l2))]) rfl ?_
      exact hk _ _ _ _ hv
    · have hc : ¬ (x4 ≤ l3) := hc
      try rw [if_neg hc] at hv
      refine jG.blk (st_X_lines) 5 (pc1 := 64) (L1 := [(0, (2, ((0 : Nat) : Int))), (2, (0, x4)), (3, (0, l2)), (4, (0, l3))]) (st1 := [(0, l3), (2, ((11 : Nat) : Int)), (2, ((1 : Nat) : Int))]) (h1 := h5) rfl ?_
      obtain ⟨v6, hq, hv⟩ := Option.bind_eq_some_iff.mp hv
      refine jT.cV (M1 := M_Mt_codeOf) (2, ((11 : Nat) : Int)) [(0, l3)] [(2, ((1 : Nat) : Int))] (st_X_lines) rfl rfl ok_Mt_codeOf rfl (Or.inl ⟨rfl, _, _, _, rfl, rfl⟩) (Nat.le_of_ble_eq_true rfl) (Nat.le_of_ble_eq_true rfl) rfl (Nat.le_of_ble_eq_true rfl) (C_Mt_codeOf hq) ?_
      show jG E _ 67 [(0, (2, ((0 : Nat) : Int))), (2, (0, x4)), (3, (0, l2)), (4, (0, l3))] [(0, v6), (2, ((1 : Nat) : Int))] h5 _ _
      obtain ⟨v7, hq, hv⟩ := Option.bind_eq_some_iff.mp hv
      refine jT.cV (M1 := M_Gm_play) (2, ((1 : Nat) : Int)) [(0, v6)] [] (st_X_lines) rfl rfl ok_Gm_play rfl (Or.inl ⟨rfl, _, _, _, rfl, rfl⟩) (Nat.le_of_ble_eq_true rfl) (Nat.le_of_ble_eq_true rfl) rfl (Nat.le_of_ble_eq_true rfl) (C_Gm_play hq) ?_
      show jG E _ 70 [(0, (2, ((0 : Nat) : Int))), (2, (0, x4)), (3, (0, l2)), (4, (0, l3))] [] v7 _ _
      refine jG.blk (st_X_lines) 5 (pc1 := 79) (L1 := [(0, (2, ((0 : Nat) : Int))), (2, (0, x4)), (3, (0, l2)), (4, (0, l3))]) (st1 := [(2, ((2 : Nat) : Int)), (2, ((14 : Nat) : Int)), (0, l2)]) (h1 := v7) rfl ?_
      obtain ⟨v8, hq, hv⟩ := Option.bind_eq_some_iff.mp hv
      refine jT.cV (M1 := M_Mt_gather) (2, ((14 : Nat) : Int)) [(2, ((2 : Nat) : Int))] [(0, l2)] (st_X_lines) rfl rfl ok_Mt_gather rfl (Or.inl ⟨rfl, _, _, _, rfl, rfl⟩) (Nat.le_of_ble_eq_true rfl) (Nat.le_of_ble_eq_true rfl) rfl (Nat.le_of_ble_eq_true rfl) (C_Mt_gather (by decide) hq) ?_
      show jG E _ 82 [(0, (2, ((0 : Nat) : Int))), (2, (0, x4)), (3, (0, l2)), (4, (0, l3))] [(0, v8.1), (0, l2)] v8.2 _ _
      refine jG.blk (st_X_lines) 4 (pc1 := 88) (L1 := [(3, (0, jadd l2 v8.1)), (0, (2, ((0 : Nat) : Int))), (2, (0, x4)), (4, (0, l3))]) (st1 := [(2, ((1 : Nat) : Int))]) (h1 := v8.2) rfl ?_
      obtain ⟨v9, hq, hv⟩ := Option.bind_eq_some_iff.mp hv
      refine jT.cV (M1 := M_Gm_takeBack) (2, ((1 : Nat) : Int)) [] [] (st_X_lines) rfl rfl ok_Gm_takeBack rfl (Or.inl ⟨rfl, _, _, _, rfl, rfl⟩) (Nat.le_of_ble_eq_true rfl) (Nat.le_of_ble_eq_true rfl) rfl (Nat.le_of_ble_eq_true rfl) (C_Gm_takeBack hq) ?_
      show jG E _ 91 [(3, (0, jadd l2 v8.1)), (0, (2, ((0 : Nat) : Int))), (2, (0, x4)), (4, (0, l3))] [] v9 _ _
      refine jG.blk (st_X_lines) 1 (pc1 := 94) (L1 := [(4, (0, jadd l3 1)), (3, (0, jadd l2 v8.1)), (0, (2, ((0 : Nat) : Int))), (2, (0, x4))]) (st1 := []) (h1 := v9) rfl ?_
      refine jT.goto (st_X_lines) rfl (tgt := 48) (by decide) ?_
      refine jG.subp [2, 3, 1, 0] (L1 := [(0, (2, ((0 : Nat) : Int))), (2, (0, x4)), (3, (0, jadd l2 v8.1)), (4, (0, jadd l3 1))]) rfl ?_
      exact ih _ _ _ _ hv
set_option maxRecDepth 100000 in
set_option maxHeartbeats 4000000 in
theorem C_X_lines {E : jE} {h : jH} {a1 : Int} {res : Int × jH} (hv : f_X_lines h a1 = some res) : jC E M_X_lines [(2, ((0 : Nat) : Int)), (0, a1)] h (some (0, res.1)) res.2 := by
  refine jC.of ok_X_lines.1 (by rw [jlg]; exact Nat.le_of_ble_eq_true rfl) ?_
  show jG E _ 0 [(0, (2, ((0 : Nat) : Int))), (1, (0, a1))] [] h _ _
  unfold f_X_lines at hv
  refine jG.blk (st_X_lines) 2 (pc1 := 4) (L1 := [(0, (2, ((0 : Nat) : Int))), (1, (0, a1))]) (st1 := [(0, h 0 9)]) (h1 := h) rfl ?_
  refine jT.if1 (st_X_lines) rfl (tgt := 16) (by decide) (fun hc => ?_) (fun hc => ?_)
  · have hc : h 0 9 = 0 := hc
    try rw [if_pos hc] at hv
    refine jG.blk (st_X_lines) 1 (pc1 := 17) (L1 := [(0, (2, ((0 : Nat) : Int))), (1, (0, a1))]) (st1 := [(0, (-1))]) (h1 := h) rfl ?_
    cases hv
    exact jT.iret (st_X_lines) rfl trivial
  · have hc : ¬ (h 0 9 = 0) := hc
    try rw [if_neg hc] at hv
    refine jG.blk (st_X_lines) 1 (pc1 := 8) (L1 := [(0, (2, ((0 : Nat) : Int))), (1, (0, a1))]) (st1 := [(0, a1)]) (h1 := h) rfl ?_
    refine jT.if1 (st_X_lines) rfl (tgt := 16) (by decide) (fun hc => ?_) (fun hc => ?_)
    · have hc : a1 < 0 := hc
      try rw [if_pos hc] at hv
      refine jG.blk (st_X_lines) 1 (pc1 := 17) (L1 := [(0, (2, ((0 : Nat) : Int))), (1, (0, a1))]) (st1 := [(0, (-1))]) (h1 := h) rfl ?_
      cases hv
      exact jT.iret (st_X_lines) rfl trivial
    · have hc : ¬ (a1 < 0) := hc
      try rw [if_neg hc] at hv
      refine jG.blk (st_X_lines) 2 (pc1 := 13) (L1 := [(0, (2, ((0 : Nat) : Int))), (1, (0, a1))]) (st1 := [(0, 2), (0, a1)]) (h1 := h) rfl ?_
      refine jT.if2 (st_X_lines) rfl (tgt := 18) (by decide) (fun hc => ?_) (fun hc => ?_)
      · have hc : a1 ≤ 2 := hc
        try rw [if_pos hc] at hv
        refine jG.blk (st_X_lines) 1 (pc1 := 19) (L1 := [(0, (2, ((0 : Nat) : Int))), (1, (0, a1))]) (st1 := [(0, a1)]) (h1 := h) rfl ?_
        refine jT.if1 (st_X_lines) rfl (tgt := 24) (by decide) (fun hc => ?_) (fun hc => ?_)
        · have hc : ¬ (a1 = 0) := hc
          try rw [if_neg hc] at hv
          refine jG.blk (st_X_lines) 4 (pc1 := 32) (L1 := [(0, (2, ((0 : Nat) : Int))), (1, (0, a1))]) (st1 := [(2, ((2 : Nat) : Int)), (2, ((11 : Nat) : Int))]) (h1 := h) rfl ?_
          obtain ⟨v1, hq, hv⟩ := Option.bind_eq_some_iff.mp hv
          refine jT.cV (M1 := M_Mt_gather) (2, ((11 : Nat) : Int)) [(2, ((2 : Nat) : Int))] [] (st_X_lines) rfl rfl ok_Mt_gather rfl (Or.inl ⟨rfl, _, _, _, rfl, rfl⟩) (Nat.le_of_ble_eq_true rfl) (Nat.le_of_ble_eq_true rfl) rfl (Nat.le_of_ble_eq_true rfl) (C_Mt_gather (by decide) hq) ?_
          show jG E _ 35 [(0, (2, ((0 : Nat) : Int))), (1, (0, a1))] [(0, v1.1)] v1.2 _ _
          refine jG.blk (st_X_lines) 3 (pc1 := 38) (L1 := [(2, (0, v1.1)), (0, (2, ((0 : Nat) : Int))), (1, (0, a1))]) (st1 := [(0, 1), (0, a1)]) (h1 := v1.2) rfl ?_
          refine jT.if2 (st_X_lines) rfl (tgt := 43) (by decide) (fun hc => ?_) (fun hc => ?_)
          · have hc : ¬ (a1 = 1) := hc
            try rw [if_neg hc] at hv
            refine jG.blk (st_X_lines) 4 (pc1 := 48) (L1 := [(4, (0, 0)), (3, (0, 0)), (2, (0, v1.1)), (0, (2, ((0 : Nat) : Int))), (1, (0, a1))]) (st1 := []) (h1 := v1.2) rfl ?_
            refine jG.subp [3, 2, 1, 0] (L1 := [(0, (2, ((0 : Nat) : Int))), (2, (0, v1.1)), (3, (0, 0)), (4, (0, 0))]) rfl ?_
            refine f_X_lines_lp48_ok E (fun l10 l11 h12 res hv => ?_) 30000 _ _ _ _ hv
            · refine jG.blk (st_X_lines) 1 (pc1 := 98) (L1 := [(3, (0, l10))]) (st1 := [(0, l10)]) (h1 := h12) rfl ?_
              cases hv
              exact jT.iret (st_X_lines) rfl trivial
          · have hc : a1 = 1 := Decidable.not_not.mp hc
            try rw [if_pos hc] at hv
            refine jG.blk (st_X_lines) 1 (pc1 := 42) (L1 := [(2, (0, v1.1)), (0, (2, ((0 : Nat) : Int))), (1, (0, a1))]) (st1 := [(0, v1.1)]) (h1 := v1.2) rfl ?_
            cases hv
            exact jT.iret (st_X_lines) rfl trivial
        · have hc : a1 = 0 := Decidable.not_not.mp hc
          try rw [if_pos hc] at hv
          refine jG.blk (st_X_lines) 1 (pc1 := 23) (L1 := [(0, (2, ((0 : Nat) : Int))), (1, (0, a1))]) (st1 := [(0, 1)]) (h1 := h) rfl ?_
          cases hv
          exact jT.iret (st_X_lines) rfl trivial
      · have hc : ¬ (a1 ≤ 2) := hc
        try rw [if_neg hc] at hv
        refine jG.blk (st_X_lines) 1 (pc1 := 17) (L1 := [(0, (2, ((0 : Nat) : Int))), (1, (0, a1))]) (st1 := [(0, (-1))]) (h1 := h) rfl ?_
        cases hv
        exact jT.iret (st_X_lines) rfl trivial
def f_X_mates_j79_25 (rc : Int → Int → jH → Option (Int × jH)) (k : Int → Int → jH → Option (Int × jH)) (h5 : jH) (h11 : jH) (x4 : Int) (l9 : Int) (l10 : Int) : Option (Int × jH) := (f_Gm_takeBack h11).bind fun v12 => rc l9 (jadd l10 1) v12
def f_X_mates_lp25 (x4 : Int) (k : Int → Int → jH → Option (Int × jH)) : Nat → Int → Int → jH → Option (Int × jH)
  | 0, _, _, _ => none
  | n + 1, l2, l3, h5 => if x4 ≤ l3 then k l2 l3 h5 else (f_Mt_codeOf h5 l3).bind fun v6 => (f_Gm_play h5 v6).bind fun v7 => (f_Bd_isKingAttacked 2 v7 (v7 2 1)).bind fun v8 => if v8 = 0 then f_X_mates_j79_25 (f_X_mates_lp25 x4 k n) k h5 v7 x4 l2 l3 else (f_Mt_gather 14 v7).bind fun v13 => f_X_mates_j79_25 (f_X_mates_lp25 x4 k n) k h5 v13.2 x4 (if v13.1 = 0 then jadd l2 1 else l2) l3
def f_X_mates (h : jH) : Option (Int × jH) := if h 0 9 = 0 then some ((-1), h) else (f_Mt_gather 11 h).bind fun v1 => f_X_mates_lp25 v1.1 (fun l14 l15 h16 => some (l14, h16)) 30000 0 0 v1.2
set_option maxRecDepth 100000 in
set_option maxHeartbeats 4000000 in
theorem f_X_mates_j79_25_ok (E : jE) {rc : Int → Int → jH → Option (Int × jH)} {k : Int → Int → jH → Option (Int × jH)} {h5 : jH} {h11 : jH} {x4 : Int} (hrc : ∀ (l2 : Int) (l3 : Int) (h5 : jH) (res : Int × jH), rc l2 l3 h5 = some res → jG E M_X_mates 25 [(0, (2, ((0 : Nat) : Int))), (1, (0, x4)), (2, (0, l2)), (3, (0, l3))] [] h5 (some (0, res.1)) res.2) (hk : ∀ (l2 : Int) (l3 : Int) (h5 : jH) (res : Int × jH), k l2 l3 h5 = some res → jG E M_X_mates 92 [(2, (0, l2))] [] h5 (some (0, res.1)) res.2) {l9 : Int} {l10 : Int} {res : Int × jH} (hv : f_X_mates_j79_25 rc k h5 h11 x4 l9 l10 = some res) : jG E M_X_mates 79 [(0, (2, ((0 : Nat) : Int))), (1, (0, x4)), (2, (0, l9)), (3, (0, l10))] [] h11 (some (0, res.1)) res.2 := by
  unfold f_X_mates_j79_25 at hv
  refine jG.blk (st_X_mates) 2 (pc1 := 83) (L1 := [(0, (2, ((0 : Nat) : Int))), (1, (0, x4)), (2, (0, l9)), (3, (0, l10))]) (st1 := [(2, ((1 : Nat) : Int))]) (h1 := h11) rfl ?_
  obtain ⟨v12, hq, hv⟩ := Option.bind_eq_some_iff.mp hv
  refine jT.cV (M1 := M_Gm_takeBack) (2, ((1 : Nat) : Int)) [] [] (st_X_mates) rfl rfl ok_Gm_takeBack rfl (Or.inl ⟨rfl, _, _, _, rfl, rfl⟩) (Nat.le_of_ble_eq_true rfl) (Nat.le_of_ble_eq_true rfl) rfl (Nat.le_of_ble_eq_true rfl) (C_Gm_takeBack hq) ?_
  show jG E _ 86 [(0, (2, ((0 : Nat) : Int))), (1, (0, x4)), (2, (0, l9)), (3, (0, l10))] [] v12 _ _
  refine jG.blk (st_X_mates) 1 (pc1 := 89) (L1 := [(3, (0, jadd l10 1)), (0, (2, ((0 : Nat) : Int))), (1, (0, x4)), (2, (0, l9))]) (st1 := []) (h1 := v12) rfl ?_
  refine jT.goto (st_X_mates) rfl (tgt := 25) (by decide) ?_
  refine jG.subp [1, 2, 3, 0] (L1 := [(0, (2, ((0 : Nat) : Int))), (1, (0, x4)), (2, (0, l9)), (3, (0, jadd l10 1))]) rfl ?_
  exact hrc _ _ _ _ hv
set_option maxRecDepth 100000 in
set_option maxHeartbeats 4000000 in
theorem f_X_mates_lp25_ok (E : jE) {x4 : Int} {k : Int → Int → jH → Option (Int × jH)} (hk : ∀ (l2 : Int) (l3 : Int) (h5 : jH) (res : Int × jH), k l2 l3 h5 = some res → jG E M_X_mates 92 [(2, (0, l2))] [] h5 (some (0, res.1)) res.2) : ∀ (n : Nat) (l2 : Int) (l3 : Int) (h5 : jH) (res : Int × jH), f_X_mates_lp25 x4 k n l2 l3 h5 = some res → jG E M_X_mates 25 [(0, (2, ((0 : Nat) : Int))), (1, (0, x4)), (2, (0, l2)), (3, (0, l3))] [] h5 (some (0, res.1)) res.2 := by
  intro n
  induction n with
  | zero => intro l2 l3 h5 res hv; cases hv
  | succ n ih =>
    intro l2 l3 h5 res hv
    rw [f_X_mates_lp25] at hv
    refine jG.blk (st_X_mates) 2 (pc1 := 27) (L1 := [(0, (2, ((0 : Nat) : Int))), (1, (0, x4)), (2, (0, l2)), (3, (0, l3))]) (st1 := [(0, x4), (0, l3)]) (h1 := h5) rfl ?_
    refine jT.if2 (st_X_mates) rfl (tgt := 92) (by decide) (fun hc => ?_) (fun hc => ?_)
    · have hc : x4 ≤ l3 := hc
      try rw [if_pos hc] at hv
      refine jG.subp [2] (L1 := [(2, (0, l2))]) rfl ?_
      exact hk _ _ _ _ hv
    · have hc : ¬ (x4 ≤ l3) := hc
      try rw [if_neg hc] at hv
      refine jG.blk (st_X_mates) 5 (pc1 := 39) (L1 := [(0, (2, ((0 : Nat) : Int))), (1, (0, x4)), (2, (0, l2)), (3, (0, l3))]) (st1 := [(0, l3), (2, ((11 : Nat) : Int)), (2, ((1 : Nat) : Int))]) (h1 := h5) rfl ?_
      obtain ⟨v6, hq, hv⟩ := Option.bind_eq_some_iff.mp hv
      refine jT.cV (M1 := M_Mt_codeOf) (2, ((11 : Nat) : Int)) [(0, l3)] [(2, ((1 : Nat) : Int))] (st_X_mates) rfl rfl ok_Mt_codeOf rfl (Or.inl ⟨rfl, _, _, _, rfl, rfl⟩) (Nat.le_of_ble_eq_true rfl) (Nat.le_of_ble_eq_true rfl) rfl (Nat.le_of_ble_eq_true rfl) (C_Mt_codeOf hq) ?_
      show jG E _ 42 [(0, (2, ((0 : Nat) : Int))), (1, (0, x4)), (2, (0, l2)), (3, (0, l3))] [(0, v6), (2, ((1 : Nat) : Int))] h5 _ _
      obtain ⟨v7, hq, hv⟩ := Option.bind_eq_some_iff.mp hv
      refine jT.cV (M1 := M_Gm_play) (2, ((1 : Nat) : Int)) [(0, v6)] [] (st_X_mates) rfl rfl ok_Gm_play rfl (Or.inl ⟨rfl, _, _, _, rfl, rfl⟩) (Nat.le_of_ble_eq_true rfl) (Nat.le_of_ble_eq_true rfl) rfl (Nat.le_of_ble_eq_true rfl) (C_Gm_play hq) ?_
      show jG E _ 45 [(0, (2, ((0 : Nat) : Int))), (1, (0, x4)), (2, (0, l2)), (3, (0, l3))] [] v7 _ _
      refine jG.blk (st_X_mates) 5 (pc1 := 56) (L1 := [(0, (2, ((0 : Nat) : Int))), (1, (0, x4)), (2, (0, l2)), (3, (0, l3))]) (st1 := [(0, v7 2 1), (2, ((2 : Nat) : Int))]) (h1 := v7) rfl ?_
      obtain ⟨v8, hq, hv⟩ := Option.bind_eq_some_iff.mp hv
      refine jT.cV (M1 := M_Bd_isKingAttacked) (2, ((2 : Nat) : Int)) [(0, v7 2 1)] [] (st_X_mates) rfl rfl ok_Bd_isKingAttacked rfl (Or.inl ⟨rfl, _, _, _, rfl, rfl⟩) (Nat.le_of_ble_eq_true rfl) (Nat.le_of_ble_eq_true rfl) rfl (Nat.le_of_ble_eq_true rfl) (C_Bd_isKingAttacked (by decide) hq) ?_
      show jG E _ 59 [(0, (2, ((0 : Nat) : Int))), (1, (0, x4)), (2, (0, l2)), (3, (0, l3))] [(0, v8)] v7 _ _
      refine jT.if1 (st_X_mates) rfl (tgt := 79) (by decide) (fun hc => ?_) (fun hc => ?_)
      · have hc : v8 = 0 := hc
        try rw [if_pos hc] at hv
        exact f_X_mates_j79_25_ok E ih hk hv
      · have hc : ¬ (v8 = 0) := hc
        try rw [if_neg hc] at hv
        refine jG.blk (st_X_mates) 4 (pc1 := 70) (L1 := [(0, (2, ((0 : Nat) : Int))), (1, (0, x4)), (2, (0, l2)), (3, (0, l3))]) (st1 := [(2, ((2 : Nat) : Int)), (2, ((14 : Nat) : Int))]) (h1 := v7) rfl ?_
        obtain ⟨v13, hq, hv⟩ := Option.bind_eq_some_iff.mp hv
        refine jT.cV (M1 := M_Mt_gather) (2, ((14 : Nat) : Int)) [(2, ((2 : Nat) : Int))] [] (st_X_mates) rfl rfl ok_Mt_gather rfl (Or.inl ⟨rfl, _, _, _, rfl, rfl⟩) (Nat.le_of_ble_eq_true rfl) (Nat.le_of_ble_eq_true rfl) rfl (Nat.le_of_ble_eq_true rfl) (C_Mt_gather (by decide) hq) ?_
        show jG E _ 73 [(0, (2, ((0 : Nat) : Int))), (1, (0, x4)), (2, (0, l2)), (3, (0, l3))] [(0, v13.1)] v13.2 _ _
        refine jT.if1 (st_X_mates) rfl (tgt := 79) (by decide) (fun hc => ?_) (fun hc => ?_)
        · have hc : ¬ (v13.1 = 0) := hc
          try rw [if_neg hc] at hv
          exact f_X_mates_j79_25_ok E ih hk hv
        · have hc : v13.1 = 0 := Decidable.not_not.mp hc
          try rw [if_pos hc] at hv
          refine jG.blk (st_X_mates) 1 (pc1 := 79) (L1 := [(2, (0, jadd l2 1)), (0, (2, ((0 : Nat) : Int))), (1, (0, x4)), (3, (0, l3))]) (st1 := []) (h1 := v13.2) rfl ?_
          refine jG.subp [1, 2, 0, 3] (L1 := [(0, (2, ((0 : Nat) : Int))), (1, (0, x4)), (2, (0, jadd l2 1)), (3, (0, l3))]) rfl ?_
          exact f_X_mates_j79_25_ok E ih hk hv
set_option maxRecDepth 100000 in
set_option maxHeartbeats 4000000 in
theorem C_X_mates {E : jE} {h : jH} {res : Int × jH} (hv : f_X_mates h = some res) : jC E M_X_mates [(2, ((0 : Nat) : Int))] h (some (0, res.1)) res.2 := by
  refine jC.of ok_X_mates.1 (by rw [jlg]; exact Nat.le_of_ble_eq_true rfl) ?_
  show jG E _ 0 [(0, (2, ((0 : Nat) : Int)))] [] h _ _
  unfold f_X_mates at hv
  refine jG.blk (st_X_mates) 2 (pc1 := 4) (L1 := [(0, (2, ((0 : Nat) : Int)))]) (st1 := [(0, h 0 9)]) (h1 := h) rfl ?_
  refine jT.if1 (st_X_mates) rfl (tgt := 9) (by decide) (fun hc => ?_) (fun hc => ?_)
  · have hc : ¬ (h 0 9 = 0) := hc
    try rw [if_neg hc] at hv
    refine jG.blk (st_X_mates) 4 (pc1 := 17) (L1 := [(0, (2, ((0 : Nat) : Int)))]) (st1 := [(2, ((2 : Nat) : Int)), (2, ((11 : Nat) : Int))]) (h1 := h) rfl ?_
    obtain ⟨v1, hq, hv⟩ := Option.bind_eq_some_iff.mp hv
    refine jT.cV (M1 := M_Mt_gather) (2, ((11 : Nat) : Int)) [(2, ((2 : Nat) : Int))] [] (st_X_mates) rfl rfl ok_Mt_gather rfl (Or.inl ⟨rfl, _, _, _, rfl, rfl⟩) (Nat.le_of_ble_eq_true rfl) (Nat.le_of_ble_eq_true rfl) rfl (Nat.le_of_ble_eq_true rfl) (C_Mt_gather (by decide) hq) ?_
    show jG E _ 20 [(0, (2, ((0 : Nat) : Int)))] [(0, v1.1)] v1.2 _ _
    refine jG.blk (st_X_mates) 5 (pc1 := 25) (L1 := [(3, (0, 0)), (2, (0, 0)), (1, (0, v1.1)), (0, (2, ((0 : Nat) : Int)))]) (st1 := []) (h1 := v1.2) rfl ?_
    refine jG.subp [3, 2, 1, 0] (L1 := [(0, (2, ((0 : Nat) : Int))), (1, (0, v1.1)), (2, (0, 0)), (3, (0, 0))]) rfl ?_
    refine f_X_mates_lp25_ok E (fun l14 l15 h16 res hv => ?_) 30000 _ _ _ _ hv
    · refine jG.blk (st_X_mates) 1 (pc1 := 93) (L1 := [(2, (0, l14))]) (st1 := [(0, l14)]) (h1 := h16) rfl ?_
      cases hv
      exact jT.iret (st_X_mates) rfl trivial
  · have hc : h 0 9 = 0 := Decidable.not_not.mp hc
    try rw [if_pos hc] at hv
    refine jG.blk (st_X_mates) 1 (pc1 := 8) (L1 := [(0, (2, ((0 : Nat) : Int)))]) (st1 := [(0, (-1))]) (h1 := h) rfl ?_
    cases hv
    exact jT.iret (st_X_mates) rfl trivial
def f_X_type_lp30 (h4 : jH) (x2 : Int) (x3 : Int) (k : Int → Option (Int × jH)) : Nat → Int → Option (Int × jH)
  | 0, _ => none
  | n + 1, l1 => if x3 ≤ l1 then k l1 else (f_X_byteOf h4 x2 l1).bind fun v5 => if v5 < 32 then some ((-1), h4) else if v5 ≤ 126 then f_X_type_lp30 h4 x2 x3 k n (jadd l1 1) else some ((-1), h4)
def f_X_type_lp71 (x8 : Int) (k : Int → jH → Option (Int × jH)) : Nat → Int → jH → Option (Int × jH)
  | 0, _, _ => none
  | n + 1, l7, h9 => if l7 < 0 then k l7 h9 else (f_X_byteOf h9 x8 l7).bind fun v10 => (f_Tx_add 18 h9 v10).bind fun v11 => f_X_type_lp71 x8 k n (jadd l7 (-1)) v11
def f_X_type (h : jH) (a1 : Int) (a2 : Int) : Option (Int × jH) := if a2 < 1 then some ((-1), h) else if 8 < a2 then some ((-1), h) else if jadd (h 18 1) a2 ≤ 100 then f_X_type_lp30 h a1 a2 (fun l6 => f_X_type_lp71 a1 (fun l12 h13 => some (h13 18 1, h13)) 1000 (jsub a2 1) h) 1000 0 else some ((-1), h)
set_option maxRecDepth 100000 in
set_option maxHeartbeats 4000000 in
theorem f_X_type_lp30_ok (E : jE) {h4 : jH} {x2 : Int} {x3 : Int} {k : Int → Option (Int × jH)} (hk : ∀ (l1 : Int) (res : Int × jH), k l1 = some res → jG E M_X_type 66 [(0, (2, ((0 : Nat) : Int))), (1, (1, x2)), (3, (0, x3))] [] h4 (some (0, res.1)) res.2) : ∀ (n : Nat) (l1 : Int) (res : Int × jH), f_X_type_lp30 h4 x2 x3 k n l1 = some res → jG E M_X_type 30 [(0, (2, ((0 : Nat) : Int))), (1, (1, x2)), (3, (0, x3)), (4, (0, l1))] [] h4 (some (0, res.1)) res.2 := by
  intro n
  induction n with
  | zero => intro l1 res hv; cases hv
  | succ n ih =>
    intro l1 res hv
    rw [f_X_type_lp30] at hv
    refine jG.blk (st_X_type) 2 (pc1 := 33) (L1 := [(0, (2, ((0 : Nat) : Int))), (1, (1, x2)), (3, (0, x3)), (4, (0, l1))]) (st1 := [(0, x3), (0, l1)]) (h1 := h4) rfl ?_
    refine jT.if2 (st_X_type) rfl (tgt := 66) (by decide) (fun hc => ?_) (fun hc => ?_)
    · have hc : x3 ≤ l1 := hc
      try rw [if_pos hc] at hv
      refine jG.subp [0, 1, 2] (L1 := [(0, (2, ((0 : Nat) : Int))), (1, (1, x2)), (3, (0, x3))]) rfl ?_
      exact hk _ _ hv
    · have hc : ¬ (x3 ≤ l1) := hc
      try rw [if_neg hc] at hv
      refine jG.blk (st_X_type) 2 (pc1 := 39) (L1 := [(0, (2, ((0 : Nat) : Int))), (1, (1, x2)), (3, (0, x3)), (4, (0, l1))]) (st1 := [(0, l1), (1, x2)]) (h1 := h4) rfl ?_
      obtain ⟨v5, hq, hv⟩ := Option.bind_eq_some_iff.mp hv
      refine jT.cS (M1 := M_X_byteOf) [(1, x2), (0, l1)] [] (st_X_type) rfl rfl ok_X_byteOf rfl (Nat.le_of_ble_eq_true rfl) (Nat.le_of_ble_eq_true rfl) rfl (Nat.le_of_ble_eq_true rfl) (C_X_byteOf hq) ?_
      show jG E _ 42 [(0, (2, ((0 : Nat) : Int))), (1, (1, x2)), (3, (0, x3)), (4, (0, l1))] [(0, v5)] h4 _ _
      refine jG.blk (st_X_type) 3 (pc1 := 48) (L1 := [(5, (0, v5)), (0, (2, ((0 : Nat) : Int))), (1, (1, x2)), (3, (0, x3)), (4, (0, l1))]) (st1 := [(0, 32), (0, v5)]) (h1 := h4) rfl ?_
      refine jT.if2 (st_X_type) rfl (tgt := 58) (by decide) (fun hc => ?_) (fun hc => ?_)
      · have hc : v5 < 32 := hc
        try rw [if_pos hc] at hv
        refine jG.blk (st_X_type) 1 (pc1 := 59) (L1 := [(5, (0, v5)), (0, (2, ((0 : Nat) : Int))), (1, (1, x2)), (3, (0, x3)), (4, (0, l1))]) (st1 := [(0, (-1))]) (h1 := h4) rfl ?_
        cases hv
        exact jT.iret (st_X_type) rfl trivial
      · have hc : ¬ (v5 < 32) := hc
        try rw [if_neg hc] at hv
        refine jG.blk (st_X_type) 2 (pc1 := 55) (L1 := [(5, (0, v5)), (0, (2, ((0 : Nat) : Int))), (1, (1, x2)), (3, (0, x3)), (4, (0, l1))]) (st1 := [(0, 126), (0, v5)]) (h1 := h4) rfl ?_
        refine jT.if2 (st_X_type) rfl (tgt := 60) (by decide) (fun hc => ?_) (fun hc => ?_)
        · have hc : v5 ≤ 126 := hc
          try rw [if_pos hc] at hv
          refine jG.blk (st_X_type) 1 (pc1 := 63) (L1 := [(4, (0, jadd l1 1)), (5, (0, v5)), (0, (2, ((0 : Nat) : Int))), (1, (1, x2)), (3, (0, x3))]) (st1 := []) (h1 := h4) rfl ?_
          refine jT.goto (st_X_type) rfl (tgt := 30) (by decide) ?_
          refine jG.subp [2, 3, 4, 0] (L1 := [(0, (2, ((0 : Nat) : Int))), (1, (1, x2)), (3, (0, x3)), (4, (0, jadd l1 1))]) rfl ?_
          exact ih _ _ hv
        · have hc : ¬ (v5 ≤ 126) := hc
          try rw [if_neg hc] at hv
          refine jG.blk (st_X_type) 1 (pc1 := 59) (L1 := [(5, (0, v5)), (0, (2, ((0 : Nat) : Int))), (1, (1, x2)), (3, (0, x3)), (4, (0, l1))]) (st1 := [(0, (-1))]) (h1 := h4) rfl ?_
          cases hv
          exact jT.iret (st_X_type) rfl trivial
set_option maxRecDepth 100000 in
set_option maxHeartbeats 4000000 in
theorem f_X_type_lp71_ok (E : jE) {x8 : Int} {k : Int → jH → Option (Int × jH)} (hk : ∀ (l7 : Int) (h9 : jH) (res : Int × jH), k l7 h9 = some res → jG E M_X_type 95 [(0, (2, ((0 : Nat) : Int)))] [] h9 (some (0, res.1)) res.2) : ∀ (n : Nat) (l7 : Int) (h9 : jH) (res : Int × jH), f_X_type_lp71 x8 k n l7 h9 = some res → jG E M_X_type 71 [(0, (2, ((0 : Nat) : Int))), (1, (1, x8)), (4, (0, l7))] [] h9 (some (0, res.1)) res.2 := by
  intro n
  induction n with
  | zero => intro l7 h9 res hv; cases hv
  | succ n ih =>
    intro l7 h9 res hv
    rw [f_X_type_lp71] at hv
    refine jG.blk (st_X_type) 1 (pc1 := 73) (L1 := [(0, (2, ((0 : Nat) : Int))), (1, (1, x8)), (4, (0, l7))]) (st1 := [(0, l7)]) (h1 := h9) rfl ?_
    refine jT.if1 (st_X_type) rfl (tgt := 95) (by decide) (fun hc => ?_) (fun hc => ?_)
    · have hc : l7 < 0 := hc
      try rw [if_pos hc] at hv
      refine jG.subp [0] (L1 := [(0, (2, ((0 : Nat) : Int)))]) rfl ?_
      exact hk _ _ _ hv
    · have hc : ¬ (l7 < 0) := hc
      try rw [if_neg hc] at hv
      refine jG.blk (st_X_type) 4 (pc1 := 83) (L1 := [(0, (2, ((0 : Nat) : Int))), (1, (1, x8)), (4, (0, l7))]) (st1 := [(0, l7), (1, x8), (2, ((18 : Nat) : Int))]) (h1 := h9) rfl ?_
      obtain ⟨v10, hq, hv⟩ := Option.bind_eq_some_iff.mp hv
      refine jT.cS (M1 := M_X_byteOf) [(1, x8), (0, l7)] [(2, ((18 : Nat) : Int))] (st_X_type) rfl rfl ok_X_byteOf rfl (Nat.le_of_ble_eq_true rfl) (Nat.le_of_ble_eq_true rfl) rfl (Nat.le_of_ble_eq_true rfl) (C_X_byteOf hq) ?_
      show jG E _ 86 [(0, (2, ((0 : Nat) : Int))), (1, (1, x8)), (4, (0, l7))] [(0, v10), (2, ((18 : Nat) : Int))] h9 _ _
      obtain ⟨v11, hq, hv⟩ := Option.bind_eq_some_iff.mp hv
      refine jT.cV (M1 := M_Tx_add) (2, ((18 : Nat) : Int)) [(0, v10)] [] (st_X_type) rfl rfl ok_Tx_add rfl (Or.inl ⟨rfl, _, _, _, rfl, rfl⟩) (Nat.le_of_ble_eq_true rfl) (Nat.le_of_ble_eq_true rfl) rfl (Nat.le_of_ble_eq_true rfl) (C_Tx_add (by decide) hq) ?_
      show jG E _ 89 [(0, (2, ((0 : Nat) : Int))), (1, (1, x8)), (4, (0, l7))] [] v11 _ _
      refine jG.blk (st_X_type) 1 (pc1 := 92) (L1 := [(4, (0, jadd l7 (-1))), (0, (2, ((0 : Nat) : Int))), (1, (1, x8))]) (st1 := []) (h1 := v11) rfl ?_
      refine jT.goto (st_X_type) rfl (tgt := 71) (by decide) ?_
      refine jG.subp [1, 2, 0] (L1 := [(0, (2, ((0 : Nat) : Int))), (1, (1, x8)), (4, (0, jadd l7 (-1)))]) rfl ?_
      exact ih _ _ _ hv
set_option maxRecDepth 100000 in
set_option maxHeartbeats 4000000 in
theorem C_X_type {E : jE} {h : jH} {a1 : Int} {a2 : Int} {res : Int × jH} (hv : f_X_type h a1 a2 = some res) : jC E M_X_type [(2, ((0 : Nat) : Int)), (1, a1), (0, a2)] h (some (0, res.1)) res.2 := by
  refine jC.of ok_X_type.1 (by rw [jlg]; exact Nat.le_of_ble_eq_true rfl) ?_
  show jG E _ 0 [(0, (2, ((0 : Nat) : Int))), (1, (1, a1)), (3, (0, a2))] [] h _ _
  unfold f_X_type at hv
  refine jG.blk (st_X_type) 2 (pc1 := 2) (L1 := [(0, (2, ((0 : Nat) : Int))), (1, (1, a1)), (3, (0, a2))]) (st1 := [(0, 1), (0, a2)]) (h1 := h) rfl ?_
  refine jT.if2 (st_X_type) rfl (tgt := 25) (by decide) (fun hc => ?_) (fun hc => ?_)
  · have hc : a2 < 1 := hc
    try rw [if_pos hc] at hv
    refine jG.blk (st_X_type) 1 (pc1 := 26) (L1 := [(0, (2, ((0 : Nat) : Int))), (1, (1, a1)), (3, (0, a2))]) (st1 := [(0, (-1))]) (h1 := h) rfl ?_
    cases hv
    exact jT.iret (st_X_type) rfl trivial
  · have hc : ¬ (a2 < 1) := hc
    try rw [if_neg hc] at hv
    refine jG.blk (st_X_type) 2 (pc1 := 8) (L1 := [(0, (2, ((0 : Nat) : Int))), (1, (1, a1)), (3, (0, a2))]) (st1 := [(0, 8), (0, a2)]) (h1 := h) rfl ?_
    refine jT.if2 (st_X_type) rfl (tgt := 25) (by decide) (fun hc => ?_) (fun hc => ?_)
    · have hc : 8 < a2 := hc
      try rw [if_pos hc] at hv
      refine jG.blk (st_X_type) 1 (pc1 := 26) (L1 := [(0, (2, ((0 : Nat) : Int))), (1, (1, a1)), (3, (0, a2))]) (st1 := [(0, (-1))]) (h1 := h) rfl ?_
      cases hv
      exact jT.iret (st_X_type) rfl trivial
    · have hc : ¬ (8 < a2) := hc
      try rw [if_neg hc] at hv
      refine jG.blk (st_X_type) 6 (pc1 := 22) (L1 := [(0, (2, ((0 : Nat) : Int))), (1, (1, a1)), (3, (0, a2))]) (st1 := [(0, 100), (0, jadd (h 18 1) a2)]) (h1 := h) rfl ?_
      refine jT.if2 (st_X_type) rfl (tgt := 27) (by decide) (fun hc => ?_) (fun hc => ?_)
      · have hc : jadd (h 18 1) a2 ≤ 100 := hc
        try rw [if_pos hc] at hv
        refine jG.blk (st_X_type) 2 (pc1 := 30) (L1 := [(4, (0, 0)), (0, (2, ((0 : Nat) : Int))), (1, (1, a1)), (3, (0, a2))]) (st1 := []) (h1 := h) rfl ?_
        refine jG.subp [1, 2, 3, 0] (L1 := [(0, (2, ((0 : Nat) : Int))), (1, (1, a1)), (3, (0, a2)), (4, (0, 0))]) rfl ?_
        refine f_X_type_lp30_ok E (fun l6 res hv => ?_) 1000 _ _ hv
        · refine jG.blk (st_X_type) 4 (pc1 := 71) (L1 := [(4, (0, jsub a2 1)), (0, (2, ((0 : Nat) : Int))), (1, (1, a1)), (3, (0, a2))]) (st1 := []) (h1 := h) rfl ?_
          refine jG.subp [1, 2, 0] (L1 := [(0, (2, ((0 : Nat) : Int))), (1, (1, a1)), (4, (0, jsub a2 1))]) rfl ?_
          refine f_X_type_lp71_ok E (fun l12 h13 res hv => ?_) 1000 _ _ _ hv
          · refine jG.blk (st_X_type) 3 (pc1 := 102) (L1 := [(0, (2, ((0 : Nat) : Int)))]) (st1 := [(0, h13 18 1)]) (h1 := h13) rfl ?_
            cases hv
            exact jT.iret (st_X_type) rfl trivial
      · have hc : ¬ (jadd (h 18 1) a2 ≤ 100) := hc
        try rw [if_neg hc] at hv
        refine jG.blk (st_X_type) 1 (pc1 := 26) (L1 := [(0, (2, ((0 : Nat) : Int))), (1, (1, a1)), (3, (0, a2))]) (st1 := [(0, (-1))]) (h1 := h) rfl ?_
        cases hv
        exact jT.iret (st_X_type) rfl trivial
def f_X_read (h : jH) : Option (Int × jH) := (f_Rd_parse h).bind fun v1 => (f_Tx_wipe 18 v1.2).bind fun v2 => if v1.1 = 0 then if 150 < v2 20 4 then some ((-2), v2) else (f_Rd_isPassedRankDue v2).bind fun v3 => if v3 = 0 then some ((-2), v2) else (f_X_adoptDraft v2).bind fun v4 => some (if v4.1 = 0 then ((-2), v4.2) else (0, v4.2)) else some (v1.1, v2)
set_option maxRecDepth 100000 in
set_option maxHeartbeats 4000000 in
theorem C_X_read {E : jE} {h : jH} {res : Int × jH} (hv : f_X_read h = some res) : jC E M_X_read [(2, ((0 : Nat) : Int))] h (some (0, res.1)) res.2 := by
  refine jC.of ok_X_read.1 (by rw [jlg]; exact Nat.le_of_ble_eq_true rfl) ?_
  show jG E _ 0 [(0, (2, ((0 : Nat) : Int)))] [] h _ _
  unfold f_X_read at hv
  refine jG.blk (st_X_read) 2 (pc1 := 4) (L1 := [(0, (2, ((0 : Nat) : Int)))]) (st1 := [(2, ((17 : Nat) : Int))]) (h1 := h) rfl ?_
  obtain ⟨v1, hq, hv⟩ := Option.bind_eq_some_iff.mp hv
  refine jT.cV (M1 := M_Rd_parse) (2, ((17 : Nat) : Int)) [] [] (st_X_read) rfl rfl ok_Rd_parse rfl (Or.inl ⟨rfl, _, _, _, rfl, rfl⟩) (Nat.le_of_ble_eq_true rfl) (Nat.le_of_ble_eq_true rfl) rfl (Nat.le_of_ble_eq_true rfl) (C_Rd_parse hq) ?_
  show jG E _ 7 [(0, (2, ((0 : Nat) : Int)))] [(0, v1.1)] v1.2 _ _
  refine jG.blk (st_X_read) 3 (pc1 := 12) (L1 := [(1, (0, v1.1)), (0, (2, ((0 : Nat) : Int)))]) (st1 := [(2, ((18 : Nat) : Int))]) (h1 := v1.2) rfl ?_
  obtain ⟨v2, hq, hv⟩ := Option.bind_eq_some_iff.mp hv
  refine jT.cV (M1 := M_Tx_wipe) (2, ((18 : Nat) : Int)) [] [] (st_X_read) rfl rfl ok_Tx_wipe rfl (Or.inl ⟨rfl, _, _, _, rfl, rfl⟩) (Nat.le_of_ble_eq_true rfl) (Nat.le_of_ble_eq_true rfl) rfl (Nat.le_of_ble_eq_true rfl) (C_Tx_wipe (by decide) hq) ?_
  show jG E _ 15 [(1, (0, v1.1)), (0, (2, ((0 : Nat) : Int)))] [] v2 _ _
  refine jG.blk (st_X_read) 1 (pc1 := 16) (L1 := [(1, (0, v1.1)), (0, (2, ((0 : Nat) : Int)))]) (st1 := [(0, v1.1)]) (h1 := v2) rfl ?_
  refine jT.if1 (st_X_read) rfl (tgt := 21) (by decide) (fun hc => ?_) (fun hc => ?_)
  · have hc : v1.1 = 0 := hc
    try rw [if_pos hc] at hv
    refine jG.blk (st_X_read) 4 (pc1 := 31) (L1 := [(1, (0, v1.1)), (0, (2, ((0 : Nat) : Int)))]) (st1 := [(0, 150), (0, v2 20 4)]) (h1 := v2) rfl ?_
    refine jT.if2 (st_X_read) rfl (tgt := 51) (by decide) (fun hc => ?_) (fun hc => ?_)
    · have hc : 150 < v2 20 4 := hc
      try rw [if_pos hc] at hv
      refine jG.blk (st_X_read) 1 (pc1 := 53) (L1 := [(1, (0, v1.1)), (0, (2, ((0 : Nat) : Int)))]) (st1 := [(0, (-2))]) (h1 := v2) rfl ?_
      cases hv
      exact jT.iret (st_X_read) rfl trivial
    · have hc : ¬ (150 < v2 20 4) := hc
      try rw [if_neg hc] at hv
      refine jG.blk (st_X_read) 2 (pc1 := 38) (L1 := [(1, (0, v1.1)), (0, (2, ((0 : Nat) : Int)))]) (st1 := [(2, ((17 : Nat) : Int))]) (h1 := v2) rfl ?_
      obtain ⟨v3, hq, hv⟩ := Option.bind_eq_some_iff.mp hv
      refine jT.cV (M1 := M_Rd_isPassedRankDue) (2, ((17 : Nat) : Int)) [] [] (st_X_read) rfl rfl ok_Rd_isPassedRankDue rfl (Or.inl ⟨rfl, _, _, _, rfl, rfl⟩) (Nat.le_of_ble_eq_true rfl) (Nat.le_of_ble_eq_true rfl) rfl (Nat.le_of_ble_eq_true rfl) (C_Rd_isPassedRankDue hq) ?_
      show jG E _ 41 [(1, (0, v1.1)), (0, (2, ((0 : Nat) : Int)))] [(0, v3)] v2 _ _
      refine jT.if1 (st_X_read) rfl (tgt := 51) (by decide) (fun hc => ?_) (fun hc => ?_)
      · have hc : v3 = 0 := hc
        try rw [if_pos hc] at hv
        refine jG.blk (st_X_read) 1 (pc1 := 53) (L1 := [(1, (0, v1.1)), (0, (2, ((0 : Nat) : Int)))]) (st1 := [(0, (-2))]) (h1 := v2) rfl ?_
        cases hv
        exact jT.iret (st_X_read) rfl trivial
      · have hc : ¬ (v3 = 0) := hc
        try rw [if_neg hc] at hv
        refine jG.blk (st_X_read) 1 (pc1 := 45) (L1 := [(1, (0, v1.1)), (0, (2, ((0 : Nat) : Int)))]) (st1 := [(2, ((0 : Nat) : Int))]) (h1 := v2) rfl ?_
        obtain ⟨v4, hq, hv⟩ := Option.bind_eq_some_iff.mp hv
        refine jT.cV (M1 := M_X_adoptDraft) (2, ((0 : Nat) : Int)) [] [] (st_X_read) rfl rfl ok_X_adoptDraft rfl (Or.inl ⟨rfl, _, _, _, rfl, rfl⟩) (Nat.le_of_ble_eq_true rfl) (Nat.le_of_ble_eq_true rfl) rfl (Nat.le_of_ble_eq_true rfl) (C_X_adoptDraft hq) ?_
        show jG E _ 48 [(1, (0, v1.1)), (0, (2, ((0 : Nat) : Int)))] [(0, v4.1)] v4.2 _ _
        refine jT.if1 (st_X_read) rfl (tgt := 54) (by decide) (fun hc => ?_) (fun hc => ?_)
        · have hc : ¬ (v4.1 = 0) := hc
          try rw [if_neg hc] at hv
          refine jG.blk (st_X_read) 1 (pc1 := 55) (L1 := [(1, (0, v1.1)), (0, (2, ((0 : Nat) : Int)))]) (st1 := [(0, 0)]) (h1 := v4.2) rfl ?_
          cases hv
          exact jT.iret (st_X_read) rfl trivial
        · have hc : v4.1 = 0 := Decidable.not_not.mp hc
          try rw [if_pos hc] at hv
          refine jG.blk (st_X_read) 1 (pc1 := 53) (L1 := [(1, (0, v1.1)), (0, (2, ((0 : Nat) : Int)))]) (st1 := [(0, (-2))]) (h1 := v4.2) rfl ?_
          cases hv
          exact jT.iret (st_X_read) rfl trivial
  · have hc : ¬ (v1.1 = 0) := hc
    try rw [if_neg hc] at hv
    refine jG.blk (st_X_read) 1 (pc1 := 20) (L1 := [(1, (0, v1.1)), (0, (2, ((0 : Nat) : Int)))]) (st1 := [(0, v1.1)]) (h1 := v2) rfl ?_
    cases hv
    exact jT.iret (st_X_read) rfl trivial
def f_X_print (h : jH) : Option (Int × jH) := if h 0 9 = 0 then some ((-1), h) else (f_Tx_wipe 22 h).bind fun v1 => (f_Tx_addSquares v1).bind fun v2 => (f_Tx_addState v2).bind fun v3 => some (v3 22 1, v3)
set_option maxRecDepth 100000 in
set_option maxHeartbeats 4000000 in
theorem C_X_print {E : jE} {h : jH} {res : Int × jH} (hv : f_X_print h = some res) : jC E M_X_print [(2, ((0 : Nat) : Int))] h (some (0, res.1)) res.2 := by
  refine jC.of ok_X_print.1 (by rw [jlg]; exact Nat.le_of_ble_eq_true rfl) ?_
  show jG E _ 0 [(0, (2, ((0 : Nat) : Int)))] [] h _ _
  unfold f_X_print at hv
  refine jG.blk (st_X_print) 2 (pc1 := 4) (L1 := [(0, (2, ((0 : Nat) : Int)))]) (st1 := [(0, h 0 9)]) (h1 := h) rfl ?_
  refine jT.if1 (st_X_print) rfl (tgt := 9) (by decide) (fun hc => ?_) (fun hc => ?_)
  · have hc : ¬ (h 0 9 = 0) := hc
    try rw [if_neg hc] at hv
    refine jG.blk (st_X_print) 2 (pc1 := 13) (L1 := [(0, (2, ((0 : Nat) : Int)))]) (st1 := [(2, ((22 : Nat) : Int))]) (h1 := h) rfl ?_
    obtain ⟨v1, hq, hv⟩ := Option.bind_eq_some_iff.mp hv
    refine jT.cV (M1 := M_Tx_wipe) (2, ((22 : Nat) : Int)) [] [] (st_X_print) rfl rfl ok_Tx_wipe rfl (Or.inl ⟨rfl, _, _, _, rfl, rfl⟩) (Nat.le_of_ble_eq_true rfl) (Nat.le_of_ble_eq_true rfl) rfl (Nat.le_of_ble_eq_true rfl) (C_Tx_wipe (by decide) hq) ?_
    show jG E _ 16 [(0, (2, ((0 : Nat) : Int)))] [] v1 _ _
    refine jG.blk (st_X_print) 4 (pc1 := 24) (L1 := [(0, (2, ((0 : Nat) : Int)))]) (st1 := [(2, ((2 : Nat) : Int)), (2, ((22 : Nat) : Int))]) (h1 := v1) rfl ?_
    obtain ⟨v2, hq, hv⟩ := Option.bind_eq_some_iff.mp hv
    refine jT.cV (M1 := M_Tx_addSquares) (2, ((22 : Nat) : Int)) [(2, ((2 : Nat) : Int))] [] (st_X_print) rfl rfl ok_Tx_addSquares rfl (Or.inl ⟨rfl, _, _, _, rfl, rfl⟩) (Nat.le_of_ble_eq_true rfl) (Nat.le_of_ble_eq_true rfl) rfl (Nat.le_of_ble_eq_true rfl) (C_Tx_addSquares hq) ?_
    show jG E _ 27 [(0, (2, ((0 : Nat) : Int)))] [] v2 _ _
    refine jG.blk (st_X_print) 4 (pc1 := 35) (L1 := [(0, (2, ((0 : Nat) : Int)))]) (st1 := [(2, ((2 : Nat) : Int)), (2, ((22 : Nat) : Int))]) (h1 := v2) rfl ?_
    obtain ⟨v3, hq, hv⟩ := Option.bind_eq_some_iff.mp hv
    refine jT.cV (M1 := M_Tx_addState) (2, ((22 : Nat) : Int)) [(2, ((2 : Nat) : Int))] [] (st_X_print) rfl rfl ok_Tx_addState rfl (Or.inl ⟨rfl, _, _, _, rfl, rfl⟩) (Nat.le_of_ble_eq_true rfl) (Nat.le_of_ble_eq_true rfl) rfl (Nat.le_of_ble_eq_true rfl) (C_Tx_addState hq) ?_
    show jG E _ 38 [(0, (2, ((0 : Nat) : Int)))] [] v3 _ _
    refine jG.blk (st_X_print) 3 (pc1 := 45) (L1 := [(0, (2, ((0 : Nat) : Int)))]) (st1 := [(0, v3 22 1)]) (h1 := v3) rfl ?_
    cases hv
    exact jT.iret (st_X_print) rfl trivial
  · have hc : h 0 9 = 0 := Decidable.not_not.mp hc
    try rw [if_pos hc] at hv
    refine jG.blk (st_X_print) 1 (pc1 := 8) (L1 := [(0, (2, ((0 : Nat) : Int)))]) (st1 := [(0, (-1))]) (h1 := h) rfl ?_
    cases hv
    exact jT.iret (st_X_print) rfl trivial
def f_X_character (h : jH) (a1 : Int) : Option (Int) := (f_Tx_letterAt 22 h a1).bind fun v1 => some v1
set_option maxRecDepth 100000 in
set_option maxHeartbeats 4000000 in
theorem C_X_character {E : jE} {h : jH} {a1 : Int} {res : Int} (hv : f_X_character h a1 = some res) : jC E M_X_character [(2, ((0 : Nat) : Int)), (0, a1)] h (some (0, res)) h := by
  refine jC.of ok_X_character.1 (by rw [jlg]; exact Nat.le_of_ble_eq_true rfl) ?_
  show jG E _ 0 [(0, (2, ((0 : Nat) : Int))), (1, (0, a1))] [] h _ _
  unfold f_X_character at hv
  refine jG.blk (st_X_character) 3 (pc1 := 5) (L1 := [(0, (2, ((0 : Nat) : Int))), (1, (0, a1))]) (st1 := [(0, a1), (2, ((22 : Nat) : Int))]) (h1 := h) rfl ?_
  obtain ⟨v1, hq, hv⟩ := Option.bind_eq_some_iff.mp hv
  refine jT.cV (M1 := M_Tx_letterAt) (2, ((22 : Nat) : Int)) [(0, a1)] [] (st_X_character) rfl rfl ok_Tx_letterAt rfl (Or.inl ⟨rfl, _, _, _, rfl, rfl⟩) (Nat.le_of_ble_eq_true rfl) (Nat.le_of_ble_eq_true rfl) rfl (Nat.le_of_ble_eq_true rfl) (C_Tx_letterAt (by decide) hq) ?_
  show jG E _ 8 [(0, (2, ((0 : Nat) : Int))), (1, (0, a1))] [(0, v1)] h _ _
  cases hv
  exact jT.iret (st_X_character) rfl trivial
def f_X_check_j89_51 (rc : Int → jH → Option (Int × jH)) (k : Int → jH → Option (Int × jH)) (h7 : jH) (h13 : jH) (x4 : Int) (x5 : Int) (x6 : Int) (l11 : Int) (s12 : Int) : Option (Int × jH) := (f_Gm_takeBack h13).bind fun v14 => if s12 = 0 then some (0, v14) else if v14 1 6 = x5 then (f_Bd_isLike v14).bind fun v15 => if v15 = 0 then some (0, v14) else rc (jadd l11 1) v14 else some (0, v14)
def f_X_check_lp51 (x4 : Int) (x5 : Int) (x6 : Int) (k : Int → jH → Option (Int × jH)) : Nat → Int → jH → Option (Int × jH)
  | 0, _, _ => none
  | n + 1, l3, h7 => if x4 ≤ l3 then k l3 h7 else (f_Mt_codeOf h7 l3).bind fun v8 => (f_Gm_play h7 v8).bind fun v9 => (f_Bd_isKingAttacked 2 v9 x6).bind fun v10 => f_X_check_j89_51 (f_X_check_lp51 x4 x5 x6 k n) k h7 v9 x4 x5 x6 l3 (if v10 = 0 then 1 else 0)
def f_X_check (h : jH) : Option (Int × jH) := if h 0 9 = 0 then some ((-1), h) else (f_Mt_gather 11 h).bind fun v1 => (f_Bd_copyFrom 20 2 v1.2).bind fun v2 => f_X_check_lp51 v1.1 (v1.2 1 6) (v1.2 2 1) (fun l16 h17 => (f_Mt_gather 14 h17).bind fun v18 => some (if v1.1 = v18.1 then (1, v18.2) else (0, v18.2))) 30000 0 v2
set_option maxRecDepth 100000 in
set_option maxHeartbeats 4000000 in
theorem f_X_check_j89_51_ok (E : jE) {rc : Int → jH → Option (Int × jH)} {k : Int → jH → Option (Int × jH)} {h7 : jH} {h13 : jH} {x4 : Int} {x5 : Int} {x6 : Int} (hrc : ∀ (l3 : Int) (h7 : jH) (res : Int × jH), rc l3 h7 = some res → jG E M_X_check 51 [(0, (2, ((0 : Nat) : Int))), (1, (0, x4)), (2, (0, x5)), (3, (0, x6)), (4, (0, l3))] [] h7 (some (0, res.1)) res.2) (hk : ∀ (l3 : Int) (h7 : jH) (res : Int × jH), k l3 h7 = some res → jG E M_X_check 136 [(0, (2, ((0 : Nat) : Int))), (1, (0, x4))] [] h7 (some (0, res.1)) res.2) {l11 : Int} {s12 : Int} {res : Int × jH} (hv : f_X_check_j89_51 rc k h7 h13 x4 x5 x6 l11 s12 = some res) : jG E M_X_check 89 [(0, (2, ((0 : Nat) : Int))), (1, (0, x4)), (2, (0, x5)), (3, (0, x6)), (4, (0, l11))] [(0, s12)] h13 (some (0, res.1)) res.2 := by
  unfold f_X_check_j89_51 at hv
  refine jG.blk (st_X_check) 3 (pc1 := 95) (L1 := [(5, (0, s12)), (0, (2, ((0 : Nat) : Int))), (1, (0, x4)), (2, (0, x5)), (3, (0, x6)), (4, (0, l11))]) (st1 := [(2, ((1 : Nat) : Int))]) (h1 := h13) rfl ?_
  obtain ⟨v14, hq, hv⟩ := Option.bind_eq_some_iff.mp hv
  refine jT.cV (M1 := M_Gm_takeBack) (2, ((1 : Nat) : Int)) [] [] (st_X_check) rfl rfl ok_Gm_takeBack rfl (Or.inl ⟨rfl, _, _, _, rfl, rfl⟩) (Nat.le_of_ble_eq_true rfl) (Nat.le_of_ble_eq_true rfl) rfl (Nat.le_of_ble_eq_true rfl) (C_Gm_takeBack hq) ?_
  show jG E _ 98 [(5, (0, s12)), (0, (2, ((0 : Nat) : Int))), (1, (0, x4)), (2, (0, x5)), (3, (0, x6)), (4, (0, l11))] [] v14 _ _
  refine jG.blk (st_X_check) 1 (pc1 := 100) (L1 := [(5, (0, s12)), (0, (2, ((0 : Nat) : Int))), (1, (0, x4)), (2, (0, x5)), (3, (0, x6)), (4, (0, l11))]) (st1 := [(0, s12)]) (h1 := v14) rfl ?_
  refine jT.if1 (st_X_check) rfl (tgt := 128) (by decide) (fun hc => ?_) (fun hc => ?_)
  · have hc : s12 = 0 := hc
    try rw [if_pos hc] at hv
    refine jG.blk (st_X_check) 1 (pc1 := 129) (L1 := [(5, (0, s12)), (0, (2, ((0 : Nat) : Int))), (1, (0, x4)), (2, (0, x5)), (3, (0, x6)), (4, (0, l11))]) (st1 := [(0, 0)]) (h1 := v14) rfl ?_
    cases hv
    exact jT.iret (st_X_check) rfl trivial
  · have hc : ¬ (s12 = 0) := hc
    try rw [if_neg hc] at hv
    refine jG.blk (st_X_check) 4 (pc1 := 111) (L1 := [(5, (0, s12)), (0, (2, ((0 : Nat) : Int))), (1, (0, x4)), (2, (0, x5)), (3, (0, x6)), (4, (0, l11))]) (st1 := [(0, x5), (0, v14 1 6)]) (h1 := v14) rfl ?_
    refine jT.if2 (st_X_check) rfl (tgt := 128) (by decide) (fun hc => ?_) (fun hc => ?_)
    · have hc : ¬ (v14 1 6 = x5) := hc
      try rw [if_neg hc] at hv
      refine jG.blk (st_X_check) 1 (pc1 := 129) (L1 := [(5, (0, s12)), (0, (2, ((0 : Nat) : Int))), (1, (0, x4)), (2, (0, x5)), (3, (0, x6)), (4, (0, l11))]) (st1 := [(0, 0)]) (h1 := v14) rfl ?_
      cases hv
      exact jT.iret (st_X_check) rfl trivial
    · have hc : v14 1 6 = x5 := Decidable.not_not.mp hc
      try rw [if_pos hc] at hv
      refine jG.blk (st_X_check) 4 (pc1 := 122) (L1 := [(5, (0, s12)), (0, (2, ((0 : Nat) : Int))), (1, (0, x4)), (2, (0, x5)), (3, (0, x6)), (4, (0, l11))]) (st1 := [(2, ((20 : Nat) : Int)), (2, ((2 : Nat) : Int))]) (h1 := v14) rfl ?_
      obtain ⟨v15, hq, hv⟩ := Option.bind_eq_some_iff.mp hv
      refine jT.cV (M1 := M_Bd_isLike) (2, ((2 : Nat) : Int)) [(2, ((20 : Nat) : Int))] [] (st_X_check) rfl rfl ok_Bd_isLike rfl (Or.inl ⟨rfl, _, _, _, rfl, rfl⟩) (Nat.le_of_ble_eq_true rfl) (Nat.le_of_ble_eq_true rfl) rfl (Nat.le_of_ble_eq_true rfl) (C_Bd_isLike hq) ?_
      show jG E _ 125 [(5, (0, s12)), (0, (2, ((0 : Nat) : Int))), (1, (0, x4)), (2, (0, x5)), (3, (0, x6)), (4, (0, l11))] [(0, v15)] v14 _ _
      refine jT.if1 (st_X_check) rfl (tgt := 130) (by decide) (fun hc => ?_) (fun hc => ?_)
      · have hc : ¬ (v15 = 0) := hc
        try rw [if_neg hc] at hv
        refine jG.blk (st_X_check) 1 (pc1 := 133) (L1 := [(4, (0, jadd l11 1)), (5, (0, s12)), (0, (2, ((0 : Nat) : Int))), (1, (0, x4)), (2, (0, x5)), (3, (0, x6))]) (st1 := []) (h1 := v14) rfl ?_
        refine jT.goto (st_X_check) rfl (tgt := 51) (by decide) ?_
        refine jG.subp [2, 3, 4, 5, 0] (L1 := [(0, (2, ((0 : Nat) : Int))), (1, (0, x4)), (2, (0, x5)), (3, (0, x6)), (4, (0, jadd l11 1))]) rfl ?_
        exact hrc _ _ _ hv
      · have hc : v15 = 0 := Decidable.not_not.mp hc
        try rw [if_pos hc] at hv
        refine jG.blk (st_X_check) 1 (pc1 := 129) (L1 := [(5, (0, s12)), (0, (2, ((0 : Nat) : Int))), (1, (0, x4)), (2, (0, x5)), (3, (0, x6)), (4, (0, l11))]) (st1 := [(0, 0)]) (h1 := v14) rfl ?_
        cases hv
        exact jT.iret (st_X_check) rfl trivial
set_option maxRecDepth 100000 in
set_option maxHeartbeats 4000000 in
theorem f_X_check_lp51_ok (E : jE) {x4 : Int} {x5 : Int} {x6 : Int} {k : Int → jH → Option (Int × jH)} (hk : ∀ (l3 : Int) (h7 : jH) (res : Int × jH), k l3 h7 = some res → jG E M_X_check 136 [(0, (2, ((0 : Nat) : Int))), (1, (0, x4))] [] h7 (some (0, res.1)) res.2) : ∀ (n : Nat) (l3 : Int) (h7 : jH) (res : Int × jH), f_X_check_lp51 x4 x5 x6 k n l3 h7 = some res → jG E M_X_check 51 [(0, (2, ((0 : Nat) : Int))), (1, (0, x4)), (2, (0, x5)), (3, (0, x6)), (4, (0, l3))] [] h7 (some (0, res.1)) res.2 := by
  intro n
  induction n with
  | zero => intro l3 h7 res hv; cases hv
  | succ n ih =>
    intro l3 h7 res hv
    rw [f_X_check_lp51] at hv
    refine jG.blk (st_X_check) 2 (pc1 := 54) (L1 := [(0, (2, ((0 : Nat) : Int))), (1, (0, x4)), (2, (0, x5)), (3, (0, x6)), (4, (0, l3))]) (st1 := [(0, x4), (0, l3)]) (h1 := h7) rfl ?_
    refine jT.if2 (st_X_check) rfl (tgt := 136) (by decide) (fun hc => ?_) (fun hc => ?_)
    · have hc : x4 ≤ l3 := hc
      try rw [if_pos hc] at hv
      refine jG.subp [0, 1] (L1 := [(0, (2, ((0 : Nat) : Int))), (1, (0, x4))]) rfl ?_
      exact hk _ _ _ hv
    · have hc : ¬ (x4 ≤ l3) := hc
      try rw [if_neg hc] at hv
      refine jG.blk (st_X_check) 5 (pc1 := 67) (L1 := [(0, (2, ((0 : Nat) : Int))), (1, (0, x4)), (2, (0, x5)), (3, (0, x6)), (4, (0, l3))]) (st1 := [(0, l3), (2, ((11 : Nat) : Int)), (2, ((1 : Nat) : Int))]) (h1 := h7) rfl ?_
      obtain ⟨v8, hq, hv⟩ := Option.bind_eq_some_iff.mp hv
      refine jT.cV (M1 := M_Mt_codeOf) (2, ((11 : Nat) : Int)) [(0, l3)] [(2, ((1 : Nat) : Int))] (st_X_check) rfl rfl ok_Mt_codeOf rfl (Or.inl ⟨rfl, _, _, _, rfl, rfl⟩) (Nat.le_of_ble_eq_true rfl) (Nat.le_of_ble_eq_true rfl) rfl (Nat.le_of_ble_eq_true rfl) (C_Mt_codeOf hq) ?_
      show jG E _ 70 [(0, (2, ((0 : Nat) : Int))), (1, (0, x4)), (2, (0, x5)), (3, (0, x6)), (4, (0, l3))] [(0, v8), (2, ((1 : Nat) : Int))] h7 _ _
      obtain ⟨v9, hq, hv⟩ := Option.bind_eq_some_iff.mp hv
      refine jT.cV (M1 := M_Gm_play) (2, ((1 : Nat) : Int)) [(0, v8)] [] (st_X_check) rfl rfl ok_Gm_play rfl (Or.inl ⟨rfl, _, _, _, rfl, rfl⟩) (Nat.le_of_ble_eq_true rfl) (Nat.le_of_ble_eq_true rfl) rfl (Nat.le_of_ble_eq_true rfl) (C_Gm_play hq) ?_
      show jG E _ 73 [(0, (2, ((0 : Nat) : Int))), (1, (0, x4)), (2, (0, x5)), (3, (0, x6)), (4, (0, l3))] [] v9 _ _
      refine jG.blk (st_X_check) 3 (pc1 := 78) (L1 := [(0, (2, ((0 : Nat) : Int))), (1, (0, x4)), (2, (0, x5)), (3, (0, x6)), (4, (0, l3))]) (st1 := [(0, x6), (2, ((2 : Nat) : Int))]) (h1 := v9) rfl ?_
      obtain ⟨v10, hq, hv⟩ := Option.bind_eq_some_iff.mp hv
      refine jT.cV (M1 := M_Bd_isKingAttacked) (2, ((2 : Nat) : Int)) [(0, x6)] [] (st_X_check) rfl rfl ok_Bd_isKingAttacked rfl (Or.inl ⟨rfl, _, _, _, rfl, rfl⟩) (Nat.le_of_ble_eq_true rfl) (Nat.le_of_ble_eq_true rfl) rfl (Nat.le_of_ble_eq_true rfl) (C_Bd_isKingAttacked (by decide) hq) ?_
      show jG E _ 81 [(0, (2, ((0 : Nat) : Int))), (1, (0, x4)), (2, (0, x5)), (3, (0, x6)), (4, (0, l3))] [(0, v10)] v9 _ _
      refine jT.if1 (st_X_check) rfl (tgt := 88) (by decide) (fun hc => ?_) (fun hc => ?_)
      · have hc : ¬ (v10 = 0) := hc
        try rw [if_neg hc] at hv
        refine jG.blk (st_X_check) 1 (pc1 := 89) (L1 := [(0, (2, ((0 : Nat) : Int))), (1, (0, x4)), (2, (0, x5)), (3, (0, x6)), (4, (0, l3))]) (st1 := [(0, 0)]) (h1 := v9) rfl ?_
        exact f_X_check_j89_51_ok E ih hk hv
      · have hc : v10 = 0 := Decidable.not_not.mp hc
        try rw [if_pos hc] at hv
        refine jG.blk (st_X_check) 1 (pc1 := 85) (L1 := [(0, (2, ((0 : Nat) : Int))), (1, (0, x4)), (2, (0, x5)), (3, (0, x6)), (4, (0, l3))]) (st1 := [(0, 1)]) (h1 := v9) rfl ?_
        refine jT.goto (st_X_check) rfl (tgt := 89) (by decide) ?_
        exact f_X_check_j89_51_ok E ih hk hv
set_option maxRecDepth 100000 in
set_option maxHeartbeats 4000000 in
theorem C_X_check {E : jE} {h : jH} {res : Int × jH} (hv : f_X_check h = some res) : jC E M_X_check [(2, ((0 : Nat) : Int))] h (some (0, res.1)) res.2 := by
  refine jC.of ok_X_check.1 (by rw [jlg]; exact Nat.le_of_ble_eq_true rfl) ?_
  show jG E _ 0 [(0, (2, ((0 : Nat) : Int)))] [] h _ _
  unfold f_X_check at hv
  refine jG.blk (st_X_check) 2 (pc1 := 4) (L1 := [(0, (2, ((0 : Nat) : Int)))]) (st1 := [(0, h 0 9)]) (h1 := h) rfl ?_
  refine jT.if1 (st_X_check) rfl (tgt := 9) (by decide) (fun hc => ?_) (fun hc => ?_)
  · have hc : ¬ (h 0 9 = 0) := hc
    try rw [if_neg hc] at hv
    refine jG.blk (st_X_check) 4 (pc1 := 17) (L1 := [(0, (2, ((0 : Nat) : Int)))]) (st1 := [(2, ((2 : Nat) : Int)), (2, ((11 : Nat) : Int))]) (h1 := h) rfl ?_
    obtain ⟨v1, hq, hv⟩ := Option.bind_eq_some_iff.mp hv
    refine jT.cV (M1 := M_Mt_gather) (2, ((11 : Nat) : Int)) [(2, ((2 : Nat) : Int))] [] (st_X_check) rfl rfl ok_Mt_gather rfl (Or.inl ⟨rfl, _, _, _, rfl, rfl⟩) (Nat.le_of_ble_eq_true rfl) (Nat.le_of_ble_eq_true rfl) rfl (Nat.le_of_ble_eq_true rfl) (C_Mt_gather (by decide) hq) ?_
    show jG E _ 20 [(0, (2, ((0 : Nat) : Int)))] [(0, v1.1)] v1.2 _ _
    refine jG.blk (st_X_check) 13 (pc1 := 45) (L1 := [(3, (0, v1.2 2 1)), (2, (0, v1.2 1 6)), (1, (0, v1.1)), (0, (2, ((0 : Nat) : Int)))]) (st1 := [(2, ((2 : Nat) : Int)), (2, ((20 : Nat) : Int))]) (h1 := v1.2) rfl ?_
    obtain ⟨v2, hq, hv⟩ := Option.bind_eq_some_iff.mp hv
    refine jT.cV (M1 := M_Bd_copyFrom) (2, ((20 : Nat) : Int)) [(2, ((2 : Nat) : Int))] [] (st_X_check) rfl rfl ok_Bd_copyFrom rfl (Or.inl ⟨rfl, _, _, _, rfl, rfl⟩) (Nat.le_of_ble_eq_true rfl) (Nat.le_of_ble_eq_true rfl) rfl (Nat.le_of_ble_eq_true rfl) (C_Bd_copyFrom (by decide) hq) ?_
    show jG E _ 48 [(3, (0, v1.2 2 1)), (2, (0, v1.2 1 6)), (1, (0, v1.1)), (0, (2, ((0 : Nat) : Int)))] [] v2 _ _
    refine jG.blk (st_X_check) 2 (pc1 := 51) (L1 := [(4, (0, 0)), (3, (0, v1.2 2 1)), (2, (0, v1.2 1 6)), (1, (0, v1.1)), (0, (2, ((0 : Nat) : Int)))]) (st1 := []) (h1 := v2) rfl ?_
    refine jG.subp [4, 3, 2, 1, 0] (L1 := [(0, (2, ((0 : Nat) : Int))), (1, (0, v1.1)), (2, (0, v1.2 1 6)), (3, (0, v1.2 2 1)), (4, (0, 0))]) rfl ?_
    refine f_X_check_lp51_ok E (fun l16 h17 res hv => ?_) 30000 _ _ _ hv
    · refine jG.blk (st_X_check) 5 (pc1 := 145) (L1 := [(0, (2, ((0 : Nat) : Int))), (1, (0, v1.1))]) (st1 := [(2, ((2 : Nat) : Int)), (2, ((14 : Nat) : Int)), (0, v1.1)]) (h1 := h17) rfl ?_
      obtain ⟨v18, hq, hv⟩ := Option.bind_eq_some_iff.mp hv
      refine jT.cV (M1 := M_Mt_gather) (2, ((14 : Nat) : Int)) [(2, ((2 : Nat) : Int))] [(0, v1.1)] (st_X_check) rfl rfl ok_Mt_gather rfl (Or.inl ⟨rfl, _, _, _, rfl, rfl⟩) (Nat.le_of_ble_eq_true rfl) (Nat.le_of_ble_eq_true rfl) rfl (Nat.le_of_ble_eq_true rfl) (C_Mt_gather (by decide) hq) ?_
      show jG E _ 148 [(0, (2, ((0 : Nat) : Int))), (1, (0, v1.1))] [(0, v18.1), (0, v1.1)] v18.2 _ _
      refine jT.if2 (st_X_check) rfl (tgt := 155) (by decide) (fun hc => ?_) (fun hc => ?_)
      · have hc : ¬ (v1.1 = v18.1) := hc
        try rw [if_neg hc] at hv
        refine jG.blk (st_X_check) 1 (pc1 := 156) (L1 := [(0, (2, ((0 : Nat) : Int))), (1, (0, v1.1))]) (st1 := [(0, 0)]) (h1 := v18.2) rfl ?_
        cases hv
        exact jT.iret (st_X_check) rfl trivial
      · have hc : v1.1 = v18.1 := Decidable.not_not.mp hc
        try rw [if_pos hc] at hv
        refine jG.blk (st_X_check) 1 (pc1 := 152) (L1 := [(0, (2, ((0 : Nat) : Int))), (1, (0, v1.1))]) (st1 := [(0, 1)]) (h1 := v18.2) rfl ?_
        refine jT.goto (st_X_check) rfl (tgt := 156) (by decide) ?_
        cases hv
        exact jT.iret (st_X_check) rfl trivial
  · have hc : h 0 9 = 0 := Decidable.not_not.mp hc
    try rw [if_pos hc] at hv
    refine jG.blk (st_X_check) 1 (pc1 := 8) (L1 := [(0, (2, ((0 : Nat) : Int)))]) (st1 := [(0, (-1))]) (h1 := h) rfl ?_
    cases hv
    exact jT.iret (st_X_check) rfl trivial
