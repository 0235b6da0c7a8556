/-! printing: the class -/
def remL (b : Nat → Int) : Nat → List Int
  | 0 => []
  | m + 1 => rowL b m 8 0 ++ ((if m = 0 then [] else [47]) ++ remL b m)
theorem sqL_rem (b : Nat → Int) : sqL b 8 = remL b 8 ++ [32] := by
  simp [sqL, remL, List.append_assoc]
theorem rowXr (h0 : jH) {r : Nat} (hr : r < 8) (b : Nat → Int) (hE : EqB (h0 3) b) (hB : BR b) : SX h0 (fun h => f_Tx_addRank h (r : Int)) (rowL b r 8 0) :=
  SX_e (rowX h0 hr b hE hB 8 (Nat.le_refl _) 1000 0 (by omega) (by omega)) (fun z _ => by
    rw [show (8 - ((8 : Nat) : Int)) = 0 from rfl]; rfl) rfl
theorem sqX (h0 : jH) (b : Nat → Int) (hE : EqB (h0 3) b) (hB : BR b) : ∀ m, m ≤ 8 → ∀ q, m < q → SX h0 (fun h => f_Tx_addSquares_lp3 (fun l5 h6 => some h6) q ((m : Int) - 1) h) (remL b m) := by
  intro m
  induction m with
  | zero =>
    intro _ q hq
    obtain ⟨q, rfl⟩ : ∃ q', q = q' + 1 := ⟨q - 1, by omega⟩
    exact SX_e (SX_none h0) (fun z _ => by rw [f_Tx_addSquares_lp3, if_pos (by omega)]) rfl
  | succ m ih =>
    intro hm q hq
    obtain ⟨q, rfl⟩ : ∃ q', q = q' + 1 := ⟨q - 1, by omega⟩
    have i1 := ih (by omega) q (by omega)
    have rr := rowXr h0 (show m < 8 by omega) b hE hB
    unfold remL
    have e : ((m + 1 : Nat) : Int) - 1 = (m : Int) := by omega
    by_cases c : m = 0
    · rw [if_pos c]
      refine SX_e (SX_seq rr i1) (fun z _ => ?_) (by rw [List.nil_append])
      rw [f_Tx_addSquares_lp3, e, if_neg (by omega), jadd_eq (by omega) (by omega)]
      congr 1
      funext v
      rw [if_pos (by omega)]; rfl
    · rw [if_neg c]
      refine SX_e (SX_seq rr (SX_seq (SX_one h0 (v := 47) (by decide) (by decide)) i1)) (fun z _ => ?_) rfl
      rw [f_Tx_addSquares_lp3, e, if_neg (by omega), jadd_eq (by omega) (by omega)]
      congr 1
      funext v
      rw [if_neg (by omega)]; rfl
theorem sqXs (h0 : jH) (b : Nat → Int) (hE : EqB (h0 3) b) (hB : BR b) : SX h0 f_Tx_addSquares (remL b 8) :=
  SX_e (sqX h0 b hE hB 8 (Nat.le_refl _) 1000 (by omega)) (fun z _ => rfl) rfl
def rlt (i : Nat) : Int := (jxc.getD 6 []).getD i 0
theorem rlt_tab : ∀ n : Nat, n < 4 → jand ((jxc.getD 6 []).getD n 0) 255 = (jxc.getD 6 []).getD n 0 ∧ 0 ≤ (jxc.getD 6 []).getD n 0 ∧ (jxc.getD 6 []).getD n 0 < 256 ∧ (jxc.getD 6 []).getD n 0 = (if (n : Int) = 0 then 75 else if (n : Int) = 1 then 81 else if (n : Int) = 2 then 107 else 113) := by decide +kernel
theorem rlt_ok (h : jH) {i : Nat} (hi : i < 4) : f_Js_charAt 8 h (i : Int) = some (rlt i) := by
  obtain ⟨t1, t2, t3, t4⟩ := rlt_tab i hi
  unfold f_Js_charAt f_Js_isLatin1
  rw [obs, if_neg (by decide)]
  unfold f_Jt_charAt f_Js_checkIndex f_Jp_checkIndex
  have hlen : (((jxc.getD (8 - 2) []).length : Nat) : Int) = 4 := by decide
  rw [hlen, if_neg (by omega), if_pos (by omega), obs, obs, jgd_pos (by omega), Int.toNat_natCast]
  have e : (jxc.getD (8 - 2) []).getD i 0 = (jxc.getD 6 []).getD i 0 := rfl
  rw [e, t1, i2c t2 t3, jgd_pos (by omega), obs, jgd_pos (by omega)]
  rfl
theorem rgb_tab : ∀ r : Nat, r < 16 → ∀ i : Nat, i < 4 → jand (jshr (r : Int) (i : Int)) 1 = ((r / 2 ^ i % 2 : Nat) : Int) := by decide +kernel
def rgT (r : Nat) : Nat → List Int
  | 0 => []
  | m + 1 => (if r / 2 ^ (3 - m) % 2 = 0 then [] else [rlt (3 - m)]) ++ rgT r m
def rgL (r : Nat) : List Int := (if r = 0 then [45] else []) ++ rgT r 4
theorem rgT_len (r : Nat) : ∀ m, (rgT r m).length ≤ m := by
  intro m
  induction m with
  | zero => exact Nat.le_refl _
  | succ m ih =>
    unfold rgT
    rw [List.length_append]
    by_cases c : r / 2 ^ (3 - m) % 2 = 0
    · rw [if_pos c]; simp only [List.length_nil]; omega
    · rw [if_neg c]; simp only [List.length_cons, List.length_nil]; omega
theorem rgT_0 : ∀ m, rgT 0 m = [] := by
  intro m
  induction m with
  | zero => rfl
  | succ m ih => unfold rgT; rw [ih, Nat.zero_div, if_pos rfl]; rfl
theorem rgX (h0 : jH) {r : Nat} (hr : r < 16) : ∀ m, m ≤ 4 → ∀ q, m < q → SX h0 (fun h => f_Tx_addRights_lp12 (r : Int) (fun l8 h9 => some h9) q (4 - (m : Int)) h) (rgT r m) := by
  intro m
  induction m with
  | zero =>
    intro _ q hq
    obtain ⟨q, rfl⟩ : ∃ q', q = q' + 1 := ⟨q - 1, by omega⟩
    exact SX_e (SX_none h0) (fun z _ => by rw [f_Tx_addRights_lp12, if_pos (by omega)]) rfl
  | succ m ih =>
    intro hm q hq
    obtain ⟨q, rfl⟩ : ∃ q', q = q' + 1 := ⟨q - 1, by omega⟩
    have i1 := ih (by omega) q (by omega)
    have e : 4 - ((m + 1 : Nat) : Int) = ((3 - m : Nat) : Int) := by omega
    have e2 : ((3 - m : Nat) : Int) + 1 = 4 - (m : Int) := by omega
    have tb := rgb_tab r hr (3 - m) (by omega)
    unfold rgT
    by_cases c : r / 2 ^ (3 - m) % 2 = 0
    · rw [if_pos c]
      refine SX_e i1 (fun z _ => ?_) (by rw [List.nil_append])
      rw [f_Tx_addRights_lp12, e, if_neg (by omega), tb, if_pos (by omega), jadd_eq (by omega) (by omega), e2]
    · rw [if_neg c]
      obtain ⟨t1, t2, t3, t4⟩ := rlt_tab (3 - m) (by omega)
      refine SX_e (SX_seq (SX_one h0 (v := rlt (3 - m)) t2 t3) i1) (fun z _ => ?_) rfl
      rw [f_Tx_addRights_lp12, e, if_neg (by omega), tb, if_neg (by omega), jadd_eq (by omega) (by omega), e2, rlt_ok z (by omega), obs]
theorem rgXs (h0 : jH) {r : Nat} (hr : r < 16) : SX h0 (fun h => f_Tx_addRights h (r : Int)) (rgL r) := by
  have i1 := rgX h0 hr 4 (Nat.le_refl _) 1000 (by omega)
  have e : (4 - ((4 : Nat) : Int)) = 0 := rfl
  rw [e] at i1
  unfold rgL
  by_cases c : r = 0
  · rw [if_pos c]
    refine SX_e (SX_seq (SX_one h0 (v := 45) (by decide) (by decide)) i1) (fun z _ => ?_) rfl
    unfold f_Tx_addRights
    rw [if_pos (by omega)]
    rfl
  · rw [if_neg c]
    refine SX_e i1 (fun z _ => ?_) (by rw [List.nil_append])
    unfold f_Tx_addRights
    rw [if_neg (by omega)]
    rfl
def psL (side file : Int) : List Int := if file = -1 then [45] else [97 + file, if side = 0 then 54 else 51]
theorem psX (h0 : jH) {side file : Int} (hS : side = 0 ∨ side = 1) (f0 : -1 ≤ file) (f1 : file ≤ 7) : SX h0 (fun h => f_Tx_addPassed h (psq side file)) (psL side file) := by
  unfold psL f_Tx_addPassed
  by_cases c : file = -1
  · rw [if_pos c]
    have e : psq side file = -1 := by unfold psq; rw [if_pos c]
    refine SX_e (SX_one h0 (v := 45) (by decide) (by decide)) (fun z _ => ?_) rfl
    rw [e, if_pos rfl]
    cases f_Tx_add 22 z 45 <;> rfl
  · rw [if_neg c]
    have e : psq side file = (if side = 0 then 40 else 16) + file := by unfold psq; rw [if_neg c]
    have hd : (if side = 0 then (54 : Int) else 51) = 49 + ((if side = 0 then (40 : Int) else 16) + file) / 8 := by split <;> omega
    refine SX_e (SX_seq (SX_one h0 (v := 97 + file) (by omega) (by omega)) (SX_one h0 (v := if side = 0 then 54 else 51) (by split <;> omega) (by split <;> omega))) (fun z _ => ?_) rfl
    rw [e, if_neg (by split <;> omega), jand7 (by split <;> omega) (by split <;> omega), jshr3 (by split <;> omega) (by split <;> omega), jadd_eq (by omega) (by omega), jadd_eq (by omega) (by omega), ← hd, show ((if side = 0 then (40 : Int) else 16) + file) % 8 = file by split <;> omega]
    congr 1
    funext v
    cases f_Tx_add 22 v (if side = 0 then 54 else 51) <;> rfl
def nuL (c : Int) : List Int := (if c < 100 then [] else [48 + c / 100]) ++ ((if c < 10 then [] else [48 + c / 10 % 10]) ++ [48 + c % 10])
theorem nuX (h0 : jH) {c : Int} (c0 : 0 ≤ c) (c1 : c ≤ 999) : SX h0 (fun h => f_Tx_addNumber h c) (nuL c) := by
  have s1 : SX h0 (fun h => f_Tx_addNumber_j40 h c) [48 + c % 10] := by
    refine SX_e (SX_one h0 (v := 48 + c % 10) (by omega) (by omega)) (fun z _ => ?_) rfl
    unfold f_Tx_addNumber_j40
    rw [jrem_eq c0 (by omega) (by decide) (by decide), jadd_eq (by omega) (by omega)]
    cases f_Tx_add 22 z (48 + c % 10) <;> rfl
  have s2 : SX h0 (fun h => f_Tx_addNumber_j20 h c) ((if c < 10 then [] else [48 + c / 10 % 10]) ++ [48 + c % 10]) := by
    unfold f_Tx_addNumber_j20
    by_cases d : c < 10
    · rw [if_pos d]
      exact SX_e s1 (fun z _ => by rw [if_pos d]) (by rw [List.nil_append])
    · rw [if_neg d]
      refine SX_e (SX_seq (SX_one h0 (v := 48 + c / 10 % 10) (by omega) (by omega)) s1) (fun z _ => ?_) rfl
      rw [if_neg d, jdiv_eq c0 (by omega) (by decide) (by decide), jrem_eq (by omega) (by omega) (by decide) (by decide), jadd_eq (by omega) (by omega)]
  unfold nuL f_Tx_addNumber
  by_cases d : c < 100
  · rw [if_pos d]
    exact SX_e s2 (fun z _ => by rw [if_pos d]) (by rw [List.nil_append])
  · rw [if_neg d]
    refine SX_e (SX_seq (SX_one h0 (v := 48 + c / 100) (by omega) (by omega)) s2) (fun z _ => ?_) rfl
    rw [if_neg d, jdiv_eq c0 (by omega) (by decide) (by decide), jrem_eq (by omega) (by omega) (by decide) (by decide), jadd_eq (by omega) (by omega), show c / 100 % 10 = c / 100 by omega]
def outL (b : Nat → Int) (side rights file count : Int) : List Int := sqL b 8 ++ ([if side = 0 then 119 else 98] ++ ([32] ++ (rgL rights.toNat ++ ([32] ++ (psL side file ++ ([32] ++ nuL count))))))
theorem psL_len (side file : Int) : (psL side file).length ≤ 2 := by
  unfold psL; split <;> simp
theorem nuL_len (c : Int) : (nuL c).length ≤ 3 := by
  unfold nuL; split <;> split <;> simp
theorem rgL_len (r : Nat) : (rgL r).length ≤ 5 := by
  unfold rgL
  have := rgT_len r 4
  rw [List.length_append]
  split <;> simp <;> omega
theorem outL_len (b : Nat → Int) (side rights file count : Int) : (outL b side rights file count).length ≤ 86 := by
  have h1 := sqL_len b 8
  have h2 := psL_len side file
  have h3 := nuL_len count
  have h4 := rgL_len rights.toNat
  unfold outL
  simp only [List.length_append, List.length_cons, List.length_nil]
  omega
theorem stX (h0 : jH) {side rights file count : Int} (e1 : h0 2 1 = side) (e2 : h0 2 2 = rights) (e3 : h0 2 3 = file) (e4 : h0 2 4 = count) (hS : StR side rights file) (c0 : 0 ≤ count) (c1 : count ≤ 999) : SX h0 f_Tx_addState ([32] ++ ([if side = 0 then 119 else 98] ++ ([32] ++ (rgL rights.toNat ++ ([32] ++ (psL side file ++ ([32] ++ nuL count))))))) := by
  obtain ⟨hs, r0, r1, f0, f1⟩ := hS
  have er : rights = ((rights.toNat : Nat) : Int) := by omega
  have one : ∀ v : Int, 0 ≤ v → v < 256 → SX h0 (fun h => f_Tx_add 22 h v) [v] := fun v a b => SX_one h0 a b
  have k7 : SX h0 (fun h => (f_Tx_addNumber h (h 2 4)).bind fun v11 => some v11) (nuL count) :=
    SX_e (nuX h0 c0 c1) (fun z hz => by
      rw [hz 2 (by decide) (by decide), e4]
      cases f_Tx_addNumber z count <;> rfl) rfl
  have k6 := SX_seq (one 32 (by decide) (by decide)) k7
  have k5 : SX h0 (fun h => (f_Bd_passedSquare h).bind fun v8 => (f_Tx_addPassed h v8).bind fun v9 => (f_Tx_add 22 v9 32).bind fun v10 => (f_Tx_addNumber v10 (v10 2 4)).bind fun v11 => some v11) (psL side file ++ ([32] ++ nuL count)) :=
    SX_e (SX_seq (psX h0 hs f0 f1) k6) (fun z hz => by
      have z2 := hz 2 (by decide) (by decide)
      rw [psq_ok z (by rw [z2, e1]; exact hs) (by rw [z2, e3]; exact f0) (by rw [z2, e3]; exact f1), z2, e1, e3, obs]) rfl
  have k4 := SX_seq (one 32 (by decide) (by decide)) k5
  have k3 : SX h0 (fun h => (f_Tx_addRights h (h 2 2)).bind fun v6 => (f_Tx_add 22 v6 32).bind fun v7 => (f_Bd_passedSquare v7).bind fun v8 => (f_Tx_addPassed v7 v8).bind fun v9 => (f_Tx_add 22 v9 32).bind fun v10 => (f_Tx_addNumber v10 (v10 2 4)).bind fun v11 => some v11) (rgL rights.toNat ++ ([32] ++ (psL side file ++ ([32] ++ nuL count)))) :=
    SX_e (SX_seq (rgXs h0 (show rights.toNat < 16 by omega)) k4) (fun z hz => by
      have e9 : f_Tx_addRights z rights = f_Tx_addRights z ((rights.toNat : Nat) : Int) := congrArg (f_Tx_addRights z) er
      rw [hz 2 (by decide) (by decide), e2, e9]) rfl
  have k2 := SX_seq (one 32 (by decide) (by decide)) k3
  have k1 : SX h0 (fun h => f_Tx_addState_j21 h (if h 2 1 = 0 then 119 else 98)) ([if side = 0 then 119 else 98] ++ ([32] ++ (rgL rights.toNat ++ ([32] ++ (psL side file ++ ([32] ++ nuL count)))))) :=
    SX_e (SX_seq (one (if side = 0 then 119 else 98) (by split <;> omega) (by split <;> omega)) k2) (fun z hz => by
      rw [hz 2 (by decide) (by decide), e1]
      rfl) rfl
  exact SX_e (SX_seq (one 32 (by decide) (by decide)) k1) (fun z _ => rfl) rfl
theorem prX (h : jH) {b : Nat → Int} {side rights file count : Int} (hg : h 0 9 ≠ 0) (hE : EqB (h 3) b) (hB : BR b) (e1 : h 2 1 = side) (e2 : h 2 2 = rights) (e3 : h 2 3 = file) (e4 : h 2 4 = count) (hS : StR side rights file) (c0 : 0 ≤ count) (c1 : count ≤ 999) :
    ∃ h', f_X_print h = some (((outL b side rights file count).length : Int), h') ∧ SmX h h' ∧ OutX h' (outL b side rights file count) := by
  unfold f_X_print f_Tx_wipe
  rw [if_neg hg, obs]
  have s0 : SmX h (jup h 22 1 0) := fun a h1 h2 => jup_n _ _ _ h1
  have o0 : OutX (jup h 22 1 0) [] := ⟨jup_ss _ _ _ _, fun i hi => absurd hi (Nat.not_lt_zero _)⟩
  have all := SX_seq (sqXs h b hE hB) (stX h e1 e2 e3 e4 hS c0 c1)
  have el : remL b 8 ++ ([32] ++ ([if side = 0 then 119 else 98] ++ ([32] ++ (rgL rights.toNat ++ ([32] ++ (psL side file ++ ([32] ++ nuL count))))))) = outL b side rights file count := by
    unfold outL; rw [sqL_rem, List.append_assoc]
  rw [el] at all
  have hl := outL_len b side rights file count
  obtain ⟨h', a1, a2, a3⟩ := all (jup h 22 1 0) [] s0 o0 (by simp only [List.length_nil]; omega)
  rw [List.nil_append] at a3
  refine ⟨h', ?_, a2, a3⟩
  have a1' : (f_Tx_addSquares (jup h 22 1 0)).bind f_Tx_addState = some h' := a1
  cases hh : f_Tx_addSquares (jup h 22 1 0) with
  | none => rw [hh] at a1'; cases a1'
  | some g =>
    rw [hh, obs] at a1'
    rw [obs, a1', obs, a3.1]
