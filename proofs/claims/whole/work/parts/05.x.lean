section JX
variable {E : jE} {M : jM} {pc pc1 : Nat} {L L1 : List (Nat × jV)} {st st1 : List jV} {h h1 : jH} {r : Option jV} {h' : jH}
theorem jG.ldcw {ix : Nat} {n : Int} (hd : decode (jb M) pc = .ok (.ldc_w ix, 3)) (hw : Cond.constant (jy M).cls ix (Int32.ofInt n) ∈ jWS) (hn : ok32 n) (g : jG E M (pc + 3) L ((0, n) :: st) h r h') : jG E M pc L st h r h' :=
  jG.sk g (fun _ o => jokS_cons hn o) (fun hx hb _ _ _ ho hts k => lv_ldcw hx hb ho (hts _ hw) hd k)
/-- words by their places -/
theorem jws_by {ws : List Cond} (ps : List Nat) (h : (ws.zip ps).all (fun q => jwat q.2 q.1) && decide (ws.length = ps.length) = true) : ∀ w ∈ ws, w ∈ jWS := by
  simp only [Bool.and_eq_true, decide_eq_true_eq] at h
  intro w hw
  obtain ⟨i, hi⟩ := List.getElem?_of_mem hw
  have hl : i < ps.length := by rw [← h.2]; exact (List.getElem?_eq_some_iff.mp hi).1
  have hz : (ws.zip ps)[i]? = some (w, ps[i]) := by
    rw [List.getElem?_zip_eq_some]
    exact ⟨hi, List.getElem?_eq_getElem hl⟩
  exact jwat_in (List.all_eq_true.mp h.1 _ (List.mem_of_getElem? hz))
def jpick (L : List (Nat × jV)) (ks : List Nat) : List (Nat × jV) := ks.filterMap (fun k => L[k]?)
theorem jG.subp (ks : List Nat) (hs : jpick L ks = L1) (g : jG E M pc L1 st h r h') : jG E M pc L st h r h' := by
  refine jG.sub g (fun q hq => ?_)
  rw [← hs] at hq
  obtain ⟨k, -, hk⟩ := List.mem_filterMap.mp hq
  exact List.mem_of_getElem? hk
def jputb (t : Nat) (v : jV) : Bool := match t with
  | 0 => v.1 == 0
  | 1 => v.1 == 1
  | 3 => v.1 == 0 && (v.2 == 0 || v.2 == 1)
  | _ => false
theorem jputb_ok {t : Nat} {v : jV} (h : jputb t v = true) : jput t v := by
  match t, h with
  | 0, h => simpa [jputb, jput] using h
  | 1, h => simpa [jputb, jput] using h
  | 2, h => cases h
  | 3, h => simpa [jputb, jput] using h
  | _ + 4, h => cases h
def jgd {α : Type} (c : Prop) [Decidable c] (x : Option α) : Option α := if c then x else none
theorem jgd_some {α : Type} {c : Prop} [Decidable c] {x : Option α} {v : α} (h : jgd c x = some v) : c ∧ x = some v := by
  unfold jgd at h
  by_cases hc : c
  · rw [if_pos hc] at h; exact ⟨hc, h⟩
  · rw [if_neg hc] at h; cases h
theorem jgd_pos {α : Type} {c : Prop} [Decidable c] {x : Option α} (hc : c) : jgd c x = x := if_pos hc
/-! the classes of the world: their words -/
theorem jcw0 : ∀ w ∈ u_ws "ChessLedger" jT0 10, w ∈ jWS := jws_by [247, 249, 251, 253, 255, 257, 259, 261, 263, 265] (by decide +kernel)
theorem jco0 : jclOk 0 "ChessLedger" jT0 10 := ⟨jcw0, by decide, by decide +kernel, by
  intro k hk
  match k, hk with
  | 0, _ => exact ⟨.object "ChessLedger$Game", by decide +kernel, by trivial⟩
  | 1, _ => exact ⟨.object "ChessLedger$Board", by decide +kernel, by trivial⟩
  | 2, _ => exact ⟨.object "ChessLedger$Past", by decide +kernel, by trivial⟩
  | 3, _ => exact ⟨.object "ChessLedger$MoveTable", by decide +kernel, by trivial⟩
  | 4, _ => exact ⟨.object "ChessLedger$MoveTable", by decide +kernel, by trivial⟩
  | 5, _ => exact ⟨.object "ChessLedger$Reader", by decide +kernel, by trivial⟩
  | 6, _ => exact ⟨.object "ChessLedger$Text", by decide +kernel, by trivial⟩
  | 7, _ => exact ⟨.object "ChessLedger$Board", by decide +kernel, by trivial⟩
  | 8, _ => exact ⟨.object "ChessLedger$Text", by decide +kernel, by trivial⟩
  | 9, _ => exact ⟨.boolean, by decide +kernel, by rfl⟩
  | k + 10, h => omega⟩
theorem jcw1 : ∀ w ∈ u_ws "ChessLedger$Board" jT1 5, w ∈ jWS := jws_by [137, 139, 141, 143, 145] (by decide +kernel)
theorem jco1 : jclOk 1 "ChessLedger$Board" jT1 5 := ⟨jcw1, by decide, by decide +kernel, by
  intro k hk
  match k, hk with
  | 0, _ => exact ⟨.array .int, by decide +kernel, by trivial⟩
  | 1, _ => exact ⟨.int, by decide +kernel, by rfl⟩
  | 2, _ => exact ⟨.int, by decide +kernel, by rfl⟩
  | 3, _ => exact ⟨.int, by decide +kernel, by rfl⟩
  | 4, _ => exact ⟨.int, by decide +kernel, by rfl⟩
  | k + 5, h => omega⟩
theorem jcw2 : ∀ w ∈ u_ws "ChessLedger$Game" jT2 7, w ∈ jWS := jws_by [158, 160, 162, 164, 166, 168, 170] (by decide +kernel)
theorem jco2 : jclOk 2 "ChessLedger$Game" jT2 7 := ⟨jcw2, by decide, by decide +kernel, by
  intro k hk
  match k, hk with
  | 0, _ => exact ⟨.object "ChessLedger$Board", by decide +kernel, by trivial⟩
  | 1, _ => exact ⟨.array .int, by decide +kernel, by trivial⟩
  | 2, _ => exact ⟨.array .int, by decide +kernel, by trivial⟩
  | 3, _ => exact ⟨.array .int, by decide +kernel, by trivial⟩
  | 4, _ => exact ⟨.array .int, by decide +kernel, by trivial⟩
  | 5, _ => exact ⟨.array .int, by decide +kernel, by trivial⟩
  | 6, _ => exact ⟨.int, by decide +kernel, by rfl⟩
  | k + 7, h => omega⟩
theorem jcw3 : ∀ w ∈ u_ws "ChessLedger$MoveTable" jT3 2, w ∈ jWS := jws_by [192, 194] (by decide +kernel)
theorem jco3 : jclOk 3 "ChessLedger$MoveTable" jT3 2 := ⟨jcw3, by decide, by decide +kernel, by
  intro k hk
  match k, hk with
  | 0, _ => exact ⟨.array .long, by decide +kernel, by trivial⟩
  | 1, _ => exact ⟨.array .long, by decide +kernel, by trivial⟩
  | k + 2, h => omega⟩
theorem jcw4 : ∀ w ∈ u_ws "ChessLedger$Past" jT4 1, w ∈ jWS := jws_by [180] (by decide +kernel)
theorem jco4 : jclOk 4 "ChessLedger$Past" jT4 1 := ⟨jcw4, by decide, by decide +kernel, by
  intro k hk
  match k, hk with
  | 0, _ => exact ⟨.array .long, by decide +kernel, by trivial⟩
  | k + 1, h => omega⟩
theorem jcw5 : ∀ w ∈ u_ws "ChessLedger$Reader" jT5 4, w ∈ jWS := jws_by [226, 228, 230, 232] (by decide +kernel)
theorem jco5 : jclOk 5 "ChessLedger$Reader" jT5 4 := ⟨jcw5, by decide, by decide +kernel, by
  intro k hk
  match k, hk with
  | 0, _ => exact ⟨.object "ChessLedger$Text", by decide +kernel, by trivial⟩
  | 1, _ => exact ⟨.object "ChessLedger$Board", by decide +kernel, by trivial⟩
  | 2, _ => exact ⟨.int, by decide +kernel, by rfl⟩
  | 3, _ => exact ⟨.int, by decide +kernel, by rfl⟩
  | k + 4, h => omega⟩
theorem jcw6 : ∀ w ∈ u_ws "ChessLedger$Text" jT6 2, w ∈ jWS := jws_by [212, 214] (by decide +kernel)
theorem jco6 : jclOk 6 "ChessLedger$Text" jT6 2 := ⟨jcw6, by decide, by decide +kernel, by
  intro k hk
  match k, hk with
  | 0, _ => exact ⟨.array .char, by decide +kernel, by trivial⟩
  | 1, _ => exact ⟨.int, by decide +kernel, by rfl⟩
  | k + 2, h => omega⟩
theorem jcw7 : ∀ w ∈ u_ws "ChessLedgerModel" jT7 15, w ∈ jWS := jws_by [801, 803, 805, 807, 809, 811, 813, 815, 817, 819, 821, 823, 825, 827, 829] (by decide +kernel)
theorem jco7 : jclOk 7 "ChessLedgerModel" jT7 15 := ⟨jcw7, by decide, by decide +kernel, by
  intro k hk
  match k, hk with
  | 0, _ => exact ⟨.int, by decide +kernel, by rfl⟩
  | 1, _ => exact ⟨.array .byte, by decide +kernel, by trivial⟩
  | 2, _ => exact ⟨.array .int, by decide +kernel, by trivial⟩
  | 3, _ => exact ⟨.array .int, by decide +kernel, by trivial⟩
  | 4, _ => exact ⟨.array .int, by decide +kernel, by trivial⟩
  | 5, _ => exact ⟨.array .int, by decide +kernel, by trivial⟩
  | 6, _ => exact ⟨.array .long, by decide +kernel, by trivial⟩
  | 7, _ => exact ⟨.int, by decide +kernel, by rfl⟩
  | 8, _ => exact ⟨.boolean, by decide +kernel, by rfl⟩
  | 9, _ => exact ⟨.array .int, by decide +kernel, by trivial⟩
  | 10, _ => exact ⟨.int, by decide +kernel, by rfl⟩
  | 11, _ => exact ⟨.int, by decide +kernel, by rfl⟩
  | 12, _ => exact ⟨.int, by decide +kernel, by rfl⟩
  | 13, _ => exact ⟨.array .int, by decide +kernel, by trivial⟩
  | 14, _ => exact ⟨.int, by decide +kernel, by rfl⟩
  | k + 15, h => omega⟩
theorem jcl_ok {ci : Nat} {C : String} {T : u_T} {N : Nat} (h : jcl[ci]? = some (C, T, N)) : jclOk ci C T N := by
  match ci, h with
  | 0, h => cases h; exact jco0
  | 1, h => cases h; exact jco1
  | 2, h => cases h; exact jco2
  | 3, h => cases h; exact jco3
  | 4, h => cases h; exact jco4
  | 5, h => cases h; exact jco5
  | 6, h => cases h; exact jco6
  | 7, h => cases h; exact jco7
  | k + 8, h => simp [jcl] at h
theorem jcl_all {x ci : Nat} (h : jkd.getD x (9, 0) = (0, ci)) : ∃ C T N, jcl[ci]? = some (C, T, N) := by
  have hx : x < jN := jkd_lt h (by decide)
  have hc : ci < 8 := (by decide : ∀ x, x < jN → (jkd.getD x (9, 0)).1 = 0 → (jkd.getD x (9, 0)).2 < 8) x hx (by rw [h]) |> fun z => by rw [h] at z; exact z
  match ci, hc with
  | 0, _ => exact ⟨_, _, _, rfl⟩
  | 1, _ => exact ⟨_, _, _, rfl⟩
  | 2, _ => exact ⟨_, _, _, rfl⟩
  | 3, _ => exact ⟨_, _, _, rfl⟩
  | 4, _ => exact ⟨_, _, _, rfl⟩
  | 5, _ => exact ⟨_, _, _, rfl⟩
  | 6, _ => exact ⟨_, _, _, rfl⟩
  | 7, _ => exact ⟨_, _, _, rfl⟩
  | k + 8, h => omega
theorem jst_ok : ∀ q ∈ jst, jokV q.2.2.2 := by
  intro q hq
  simp only [jst, List.mem_cons, List.not_mem_nil, or_false] at hq
  rcases hq with rfl | rfl | rfl | rfl | rfl | rfl <;> first | trivial | exact ⟨by decide, by decide⟩
theorem jxl_small {E : jE} {x : Nat} (h0 : x ≠ 0) (hx : x < jxn) : (jxl E x : Int) < 2147483648 := by
  unfold jxl
  rw [if_neg h0]
  exact (by decide : ∀ x, x < jxn → ((jxc.getD x []).length : Int) < 2147483648) x hx
/-! straight stretches: a program that runs them, and why it may -/
def jlen : Instr → Nat
  | .bipush _ => 2
  | .sipush _ => 3
  | .ldc _ => 2
  | .ldc2_w _ => 3
  | .ldc_w _ => 3
  | .iload _ => 2
  | .lload _ => 2
  | .aload _ => 2
  | .istore _ => 2
  | .lstore _ => 2
  | .astore _ => 2
  | .iinc _ _ => 3
  | .getfield _ => 3
  | .putfield _ => 3
  | .getstatic _ => 3
  | .invokestatic _ => 3
  | .invokevirtual _ => 3
  | .ifCond _ _ => 3
  | .if_icmp _ _ => 3
  | .goto _ => 3
  | .tableswitch _ _ _ _ => 0
  | .lookupswitch _ _ => 0
  | _ => 1
def jfl (ci k : Nat) : String × String × String × Bool := match jcl[ci]? with
  | some q => q.2.1 k
  | none => ("", "", "", true)
def jfn (ci : Nat) : Nat := match jcl[ci]? with
  | some q => q.2.2
  | none => 0
def jokR (M : jM) (i : Instr) (res : List Int) : Bool := match i with
  | .iconst n => decide (-2147483648 ≤ n ∧ n < 2147483648)
  | .bipush n => decide (-128 ≤ n ∧ n < 128)
  | .sipush n => decide (-32768 ≤ n ∧ n < 32768)
  | .ldc ix => (match res with
    | [0, wi, n] => jwat wi.toNat (.constant (jy M).cls ix (Int32.ofInt n)) && decide (-2147483648 ≤ n ∧ n < 2147483648)
    | [1, k] => (match jsr[k.toNat]? with
      | some q => decide (q.1 = (jy M).cls) && decide (q.2.1 = ix)
      | none => false)
    | _ => false)
  | .ldc_w ix => (match res with
    | [wi, n] => jwat wi.toNat (.constant (jy M).cls ix (Int32.ofInt n)) && decide (-2147483648 ≤ n ∧ n < 2147483648)
    | _ => false)
  | .ldc2_w ix => (match res with
    | [wi, n] => jwat wi.toNat (.constantLong (jy M).cls ix (Int64.ofInt n)) && decide (-9223372036854775808 ≤ n ∧ n < 9223372036854775808)
    | _ => false)
  | .istore_n k => decide (k.val < jL M)
  | .istore k => decide (k < jL M)
  | .astore_n k => decide (k.val < jL M)
  | .astore k => decide (k < jL M)
  | .lstore_n k => decide (k.val + 1 < jL M)
  | .lstore k => decide (k + 1 < jL M)
  | .iinc k _ => decide (k < jL M)
  | .getfield ix => (match res with
    | [ci, k, wi, 0] => decide (k.toNat < jfn ci.toNat) && jwat wi.toNat (.fieldLink (jy M).cls ix (jfl ci.toNat k.toNat).1 (jfl ci.toNat k.toNat).2.1 (jfl ci.toNat k.toNat).2.2.1)
    | [ci, k, wi, 1] => decide (k.toNat < jfn ci.toNat) && jnat wi.toNat (.fieldLinkNest (jy M).cls ix (jfl ci.toNat k.toNat).1 (jfl ci.toNat k.toNat).2.1 (jfl ci.toNat k.toNat).2.2.1 jhost)
    | [0, wi] => jwat wi.toNat (.fieldLink (jy M).cls ix "java/lang/String" "coder" "B")
    | [1, wi] => jwat wi.toNat (.fieldLink (jy M).cls ix "java/lang/String" "value" "[B")
    | _ => false)
  | .putfield ix => (match res with
    | [ci, k, wi, 0] => decide (k.toNat < jfn ci.toNat) && !(jfl ci.toNat k.toNat).2.2.2 && jwat wi.toNat (.fieldLink (jy M).cls ix (jfl ci.toNat k.toNat).1 (jfl ci.toNat k.toNat).2.1 (jfl ci.toNat k.toNat).2.2.1)
    | [ci, k, wi, 1] => decide (k.toNat < jfn ci.toNat) && !(jfl ci.toNat k.toNat).2.2.2 && jnat wi.toNat (.fieldLinkNest (jy M).cls ix (jfl ci.toNat k.toNat).1 (jfl ci.toNat k.toNat).2.1 (jfl ci.toNat k.toNat).2.2.1 jhost)
    | _ => false)
  | .getstatic ix => (match res with
    | [j, wi, 0] => (match jst[j.toNat]? with
      | some q => jwat wi.toNat (.fieldLink (jy M).cls ix q.1 q.2.1 q.2.2.1)
      | none => false)
    | [j, wi, 1] => (match jst[j.toNat]? with
      | some q => jnat wi.toNat (.fieldLinkNest (jy M).cls ix q.1 q.2.1 q.2.2.1 jhost)
      | none => false)
    | _ => false)
  | .invokestatic ix => (match res with
    | [wi, w2, w3, w4] => jwat wi.toNat (.methodLink (jy M).cls ix arraycopyName) && jwat w2.toNat (.native arraycopyName) && jwat w3.toNat (.static arraycopyName) && jwat w4.toNat (.initialized "java/lang/System")
    | [0, wi, w2, w3, w4] => jwat wi.toNat (.methodLink (jy M).cls ix Lib.Math.abs.name) && jwat w2.toNat (.static Lib.Math.abs.name) && jwat w3.toNat (.initialized "java/lang/Math") && jwat w4.toNat (.code Lib.Math.abs.name Lib.Math.abs.code 1 (some .int))
    | [1, wi, w2, w3, w4] => jwat wi.toNat (.methodLink (jy M).cls ix Lib.Math.max.name) && jwat w2.toNat (.static Lib.Math.max.name) && jwat w3.toNat (.initialized "java/lang/Math") && jwat w4.toNat (.code Lib.Math.max.name Lib.Math.max.code 2 (some .int))
    | [2, wi, w2, w3, w4] => jwat wi.toNat (.methodLink (jy M).cls ix Lib.Math.min.name) && jwat w2.toNat (.static Lib.Math.min.name) && jwat w3.toNat (.initialized "java/lang/Math") && jwat w4.toNat (.code Lib.Math.min.name Lib.Math.min.code 2 (some .int))
    | [j, wi, 0] => jwat wi.toNat (.methodLink (jy M).cls ix (jyn.getD j.toNat ⟨"", "", ""⟩))
    | [j, wi, 1] => jnat wi.toNat (.methodLinkNest (jy M).cls ix (jyn.getD j.toNat ⟨"", "", ""⟩) jhost)
    | _ => false)
  | .invokevirtual ix => (match res with
    | [j, wi, 0] => jwat wi.toNat (.methodLink (jy M).cls ix (jyn.getD j.toNat ⟨"", "", ""⟩))
    | [j, wi, 1] => jnat wi.toNat (.methodLinkNest (jy M).cls ix (jyn.getD j.toNat ⟨"", "", ""⟩) jhost)
    | _ => false)
  | _ => true
def jokE (M : jM) (pc : Nat) (q : jI) : Bool := decide (decode (jb M) pc = .ok (q.1, q.2.1)) && (decide (jlen q.1 = 0) || decide (q.2.1 = jlen q.1)) && jokR M q.1 q.2.2
def jokT2 (M : jM) : Nat → List (Option jI) → Bool
  | _, [] => true
  | pc, none :: l => jokT2 M (pc + 1) l
  | pc, some q :: l => jokE M pc q && jokT2 M (pc + 1) l
theorem jokT2_at {M : jM} : ∀ {l : List (Option jI)} {pc k : Nat} {q : jI}, jokT2 M pc l = true → l[k]? = some (some q) → jokE M (pc + k) q = true := by
  intro l
  induction l with
  | nil => intro pc k q _ h; simp at h
  | cons x l ih =>
    intro pc k q hT h
    cases k with
    | zero =>
      simp at h
      subst h
      unfold jokT2 at hT
      simp only [Bool.and_eq_true] at hT
      exact hT.1
    | succ k =>
      simp at h
      have h2 : jokT2 M (pc + 1) l = true := by
        cases x with
        | none => exact hT
        | some y => unfold jokT2 at hT; simp only [Bool.and_eq_true] at hT; exact hT.2
      have h3 := ih h2 h
      rw [show pc + 1 + k = pc + (k + 1) by omega] at h3
      exact h3
theorem jokT_at {M : jM} (hT : jokT2 M 0 (jt M) = true) {pc : Nat} {i : Instr} {len : Nat} {res : List Int} (he : (jt M)[pc]? = some (some (i, len, res))) : decode (jb M) pc = .ok (i, len) ∧ (jlen i = 0 ∨ len = jlen i) ∧ jokR M i res = true := by
  have h1 := jokT2_at hT he
  rw [Nat.zero_add] at h1
  simp only [jokE, Bool.and_eq_true, Bool.or_eq_true, decide_eq_true_eq] at h1
  exact ⟨h1.1.1, h1.1.2, h1.2⟩
def jx1 (i : Instr) (res : List Int) (L : List (Nat × jV)) (st : List jV) (h : jH) : Option (List (Nat × jV) × List jV × jH) := match i with
  | .iconst n => some (L, (0, n) :: st, h)
  | .bipush n => some (L, (0, n) :: st, h)
  | .sipush n => some (L, (0, n) :: st, h)
  | .lconst n => some (L, (1, ((n : Nat) : Int)) :: st, h)
  | .ldc _ => (match res with
    | [0, _, n] => some (L, (0, n) :: st, h)
    | [1, k] => (match jsr[k.toNat]? with
      | some q => some (L, (3, (q.2.2.2 : Int)) :: st, h)
      | none => none)
    | _ => none)
  | .ldc_w _ => (match res with
    | [_, n] => some (L, (0, n) :: st, h)
    | _ => none)
  | .ldc2_w _ => (match res with
    | [_, n] => some (L, (1, n) :: st, h)
    | _ => none)
  | .iload_n k => (match jlk L k.val with
    | some (0, x) => some (L, (0, x) :: st, h)
    | _ => none)
  | .iload k => (match jlk L k with
    | some (0, x) => some (L, (0, x) :: st, h)
    | _ => none)
  | .lload_n k => (match jlk L k.val with
    | some (1, x) => some (L, (1, x) :: st, h)
    | _ => none)
  | .lload k => (match jlk L k with
    | some (1, x) => some (L, (1, x) :: st, h)
    | _ => none)
  | .aload_n k => (match jlk L k.val with
    | some (t, x) => if t = 2 ∨ t = 3 then some (L, (t, x) :: st, h) else none
    | none => none)
  | .aload k => (match jlk L k with
    | some (t, x) => if t = 2 ∨ t = 3 then some (L, (t, x) :: st, h) else none
    | none => none)
  | .istore_n k => (match st with
    | (0, x) :: s => some (jset1 L k.val (0, x), s, h)
    | _ => none)
  | .istore k => (match st with
    | (0, x) :: s => some (jset1 L k (0, x), s, h)
    | _ => none)
  | .lstore_n k => (match st with
    | (1, x) :: s => some (jset2 L k.val (1, x), s, h)
    | _ => none)
  | .lstore k => (match st with
    | (1, x) :: s => some (jset2 L k (1, x), s, h)
    | _ => none)
  | .astore_n k => (match st with
    | (t, x) :: s => if t = 2 ∨ t = 3 then some (jset1 L k.val (t, x), s, h) else none
    | _ => none)
  | .astore k => (match st with
    | (t, x) :: s => if t = 2 ∨ t = 3 then some (jset1 L k (t, x), s, h) else none
    | _ => none)
  | .iinc k n => (match jlk L k with
    | some (0, x) => some (jset1 L k (0, jadd x n), st, h)
    | _ => none)
  | .iadd => (match st with
    | (0, b) :: (0, a) :: s => some (L, (0, jadd a b) :: s, h)
    | _ => none)
  | .isub => (match st with
    | (0, b) :: (0, a) :: s => some (L, (0, jsub a b) :: s, h)
    | _ => none)
  | .imul => (match st with
    | (0, b) :: (0, a) :: s => some (L, (0, jmul a b) :: s, h)
    | _ => none)
  | .iand => (match st with
    | (0, b) :: (0, a) :: s => some (L, (0, jand a b) :: s, h)
    | _ => none)
  | .ior => (match st with
    | (0, b) :: (0, a) :: s => some (L, (0, jor a b) :: s, h)
    | _ => none)
  | .ixor => (match st with
    | (0, b) :: (0, a) :: s => some (L, (0, jxor a b) :: s, h)
    | _ => none)
  | .ishl => (match st with
    | (0, b) :: (0, a) :: s => some (L, (0, jshl a b) :: s, h)
    | _ => none)
  | .ishr => (match st with
    | (0, b) :: (0, a) :: s => some (L, (0, jshr a b) :: s, h)
    | _ => none)
  | .iushr => (match st with
    | (0, b) :: (0, a) :: s => some (L, (0, jushr a b) :: s, h)
    | _ => none)
  | .idiv => (match st with
    | (0, b) :: (0, a) :: s => if b ≠ 0 then some (L, (0, jdiv a b) :: s, h) else none
    | _ => none)
  | .irem => (match st with
    | (0, b) :: (0, a) :: s => if b ≠ 0 then some (L, (0, jrem a b) :: s, h) else none
    | _ => none)
  | .ladd => (match st with
    | (1, b) :: (1, a) :: s => some (L, (1, jladd a b) :: s, h)
    | _ => none)
  | .lsub => (match st with
    | (1, b) :: (1, a) :: s => some (L, (1, jlsub a b) :: s, h)
    | _ => none)
  | .lmul => (match st with
    | (1, b) :: (1, a) :: s => some (L, (1, jlmul a b) :: s, h)
    | _ => none)
  | .land => (match st with
    | (1, b) :: (1, a) :: s => some (L, (1, jland a b) :: s, h)
    | _ => none)
  | .lor => (match st with
    | (1, b) :: (1, a) :: s => some (L, (1, jlor a b) :: s, h)
    | _ => none)
  | .lxor => (match st with
    | (1, b) :: (1, a) :: s => some (L, (1, jlxor a b) :: s, h)
    | _ => none)
  | .lshl => (match st with
    | (0, b) :: (1, a) :: s => some (L, (1, jlshl a b) :: s, h)
    | _ => none)
  | .lshr => (match st with
    | (0, b) :: (1, a) :: s => some (L, (1, jlshr a b) :: s, h)
    | _ => none)
  | .lushr => (match st with
    | (0, b) :: (1, a) :: s => some (L, (1, jlushr a b) :: s, h)
    | _ => none)
  | .ineg => (match st with
    | (0, a) :: s => some (L, (0, jneg a) :: s, h)
    | _ => none)
  | .i2l => (match st with
    | (0, a) :: s => some (L, (1, a) :: s, h)
    | _ => none)
  | .l2i => (match st with
    | (1, a) :: s => some (L, (0, jl2i a) :: s, h)
    | _ => none)
  | .i2b => (match st with
    | (0, a) :: s => some (L, (0, ji2b a) :: s, h)
    | _ => none)
  | .i2c => (match st with
    | (0, a) :: s => some (L, (0, ji2c a) :: s, h)
    | _ => none)
  | .lcmp => (match st with
    | (1, b) :: (1, a) :: s => some (L, (0, jcmp a b) :: s, h)
    | _ => none)
  | .dup => (match st with
    | v :: s => if v.1 ≠ 1 then some (L, v :: v :: s, h) else none
    | _ => none)
  | .pop => (match st with
    | v :: s => if v.1 ≠ 1 then some (L, s, h) else none
    | _ => none)
  | .dup_x1 => (match st with
    | v :: w :: s => if v.1 ≠ 1 ∧ w.1 ≠ 1 then some (L, v :: w :: v :: s, h) else none
    | _ => none)
  | .dup2 => (match st with
    | v :: w :: s => if v.1 ≠ 1 ∧ w.1 ≠ 1 then some (L, v :: w :: v :: w :: s, h) else none
    | _ => none)
  | .getfield _ => (match res, st with
    | [ci, k, _, _], (2, x) :: s => if jkd.getD x.toNat (9, 0) = (0, ci.toNat) ∧ 0 ≤ x then some (L, jfd x.toNat k.toNat (h x.toNat k.toNat) :: s, h) else none
    | _, _ => none)
  | .putfield _ => (match res, st with
    | [ci, k, _, _], v :: (2, x) :: s => if jkd.getD x.toNat (9, 0) = (0, ci.toNat) ∧ 0 ≤ x ∧ jputb ((jft.getD ci.toNat []).getD k.toNat 2) v = true then some (L, s, jup h x.toNat k.toNat v.2) else none
    | _, _ => none)
  | .getstatic _ => (match res with
    | [j, _, _] => (match jst[j.toNat]? with
      | some q => some (L, q.2.2.2 :: st, h)
      | none => none)
    | _ => none)
  | _ => none
def jxN (T : List (Option jI)) : Nat → Nat → List (Nat × jV) → List jV → jH → Option (Nat × List (Nat × jV) × List jV × jH)
  | 0, pc, L, st, h => some (pc, L, st, h)
  | k + 1, pc, L, st, h => match T[pc]? with
    | some (some (i, len, res)) => (match jx1 i res L st h with
      | some (L1, st1, h1) => jxN T k (pc + len) L1 st1 h1
      | none => none)
    | _ => none
theorem jG.x1 {i : Instr} {len : Nat} {res : List Int} (hT : jokT2 M 0 (jt M) = true) (he : (jt M)[pc]? = some (some (i, len, res))) (hx : jx1 i res L st h = some (L1, st1, h1)) (g : jG E M (pc + len) L1 st1 h1 r h') : jG E M pc L st h r h' := by
  obtain ⟨hd, hlen, hR⟩ := jokT_at hT he
  cases i with
  | iconst n =>
    obtain rfl : len = 1 := by simpa [jlen] using hlen
    simp only [jx1, jokR, decide_eq_true_eq] at hx hR
    cases hx
    exact jG.iconst hd hR g
  | bipush n =>
    obtain rfl : len = 2 := by simpa [jlen] using hlen
    simp only [jx1, jokR, decide_eq_true_eq] at hx hR
    cases hx
    exact jG.bipush hd hR.1 hR.2 g
  | sipush n =>
    obtain rfl : len = 3 := by simpa [jlen] using hlen
    simp only [jx1, jokR, decide_eq_true_eq] at hx hR
    cases hx
    exact jG.sipush hd hR.1 hR.2 g
  | lconst n =>
    obtain rfl : len = 1 := by simpa [jlen] using hlen
    simp only [jx1] at hx
    cases hx
    exact jG.lconst hd g
  | ldc ix =>
    obtain rfl : len = 2 := by simpa [jlen] using hlen
    simp only [jx1, jokR] at hx hR
    split at hx
    · simp only [Bool.and_eq_true, decide_eq_true_eq] at hR
      cases hx
      exact jG.ldc hd (jwat_in hR.1) hR.2 g
    · split at hx
      · rename_i q hq
        simp only [hq, Bool.and_eq_true, decide_eq_true_eq] at hR
        cases hx
        exact jG.ldcs hd (List.mem_of_getElem? hq) hR.1 hR.2 g
      · cases hx
    · cases hx
  | ldc_w ix =>
    obtain rfl : len = 3 := by simpa [jlen] using hlen
    simp only [jx1, jokR] at hx hR
    split at hx
    · simp only [Bool.and_eq_true, decide_eq_true_eq] at hR
      cases hx
      exact jG.ldcw hd (jwat_in hR.1) hR.2 g
    · cases hx
  | ldc2_w ix =>
    obtain rfl : len = 3 := by simpa [jlen] using hlen
    simp only [jx1, jokR] at hx hR
    split at hx
    · simp only [Bool.and_eq_true, decide_eq_true_eq] at hR
      cases hx
      exact jG.ldc2 hd (jwat_in hR.1) hR.2 g
    · cases hx
  | iload_n k =>
    obtain rfl : len = 1 := by simpa [jlen] using hlen
    simp only [jx1] at hx
    split at hx
    · rename_i x hk
      cases hx
      exact jG.iload_n hd hk g
    · cases hx
  | iload k =>
    obtain rfl : len = 2 := by simpa [jlen] using hlen
    simp only [jx1] at hx
    split at hx
    · rename_i x hk
      cases hx
      exact jG.iload hd hk g
    · cases hx
  | lload_n k =>
    obtain rfl : len = 1 := by simpa [jlen] using hlen
    simp only [jx1] at hx
    split at hx
    · rename_i x hk
      cases hx
      exact jG.lload_n hd hk g
    · cases hx
  | lload k =>
    obtain rfl : len = 2 := by simpa [jlen] using hlen
    simp only [jx1] at hx
    split at hx
    · rename_i x hk
      cases hx
      exact jG.lload hd hk g
    · cases hx
  | aload_n k =>
    obtain rfl : len = 1 := by simpa [jlen] using hlen
    simp only [jx1] at hx
    split at hx
    · rename_i t x hk
      split at hx
      · rename_i ht
        cases hx
        exact jG.aload_n hd ht hk g
      · cases hx
    · cases hx
  | aload k =>
    obtain rfl : len = 2 := by simpa [jlen] using hlen
    simp only [jx1] at hx
    split at hx
    · rename_i t x hk
      split at hx
      · rename_i ht
        cases hx
        exact jG.aload hd ht hk g
      · cases hx
    · cases hx
  | istore_n k =>
    obtain rfl : len = 1 := by simpa [jlen] using hlen
    simp only [jx1, jokR, decide_eq_true_eq] at hx hR
    split at hx
    · cases hx
      exact jG.istore_n hd hR g
    · cases hx
  | istore k =>
    obtain rfl : len = 2 := by simpa [jlen] using hlen
    simp only [jx1, jokR, decide_eq_true_eq] at hx hR
    split at hx
    · cases hx
      exact jG.istore hd hR g
    · cases hx
  | lstore_n k =>
    obtain rfl : len = 1 := by simpa [jlen] using hlen
    simp only [jx1, jokR, decide_eq_true_eq] at hx hR
    split at hx
    · cases hx
      exact jG.lstore_n hd hR g
    · cases hx
  | lstore k =>
    obtain rfl : len = 2 := by simpa [jlen] using hlen
    simp only [jx1, jokR, decide_eq_true_eq] at hx hR
    split at hx
    · cases hx
      exact jG.lstore hd hR g
    · cases hx
  | astore_n k =>
    obtain rfl : len = 1 := by simpa [jlen] using hlen
    simp only [jx1, jokR, decide_eq_true_eq] at hx hR
    split at hx
    · split at hx
      · rename_i ht
        cases hx
        exact jG.astore_n hd ht hR g
      · cases hx
    · cases hx
  | astore k =>
    obtain rfl : len = 2 := by simpa [jlen] using hlen
    simp only [jx1, jokR, decide_eq_true_eq] at hx hR
    split at hx
    · split at hx
      · rename_i ht
        cases hx
        exact jG.astore hd ht hR g
      · cases hx
    · cases hx
  | iinc k n =>
    obtain rfl : len = 3 := by simpa [jlen] using hlen
    simp only [jx1, jokR, decide_eq_true_eq] at hx hR
    split at hx
    · rename_i x hk
      cases hx
      exact jG.iinc hd hR hk g
    · cases hx
  | iadd =>
    obtain rfl : len = 1 := by simpa [jlen] using hlen
    simp only [jx1] at hx
    split at hx
    · cases hx
      exact jG.iadd hd g
    · cases hx
  | isub =>
    obtain rfl : len = 1 := by simpa [jlen] using hlen
    simp only [jx1] at hx
    split at hx
    · cases hx
      exact jG.isub hd g
    · cases hx
  | imul =>
    obtain rfl : len = 1 := by simpa [jlen] using hlen
    simp only [jx1] at hx
    split at hx
    · cases hx
      exact jG.imul hd g
    · cases hx
  | iand =>
    obtain rfl : len = 1 := by simpa [jlen] using hlen
    simp only [jx1] at hx
    split at hx
    · cases hx
      exact jG.iand hd g
    · cases hx
  | ior =>
    obtain rfl : len = 1 := by simpa [jlen] using hlen
    simp only [jx1] at hx
    split at hx
    · cases hx
      exact jG.ior hd g
    · cases hx
  | ixor =>
    obtain rfl : len = 1 := by simpa [jlen] using hlen
    simp only [jx1] at hx
    split at hx
    · cases hx
      exact jG.ixor hd g
    · cases hx
  | ishl =>
    obtain rfl : len = 1 := by simpa [jlen] using hlen
    simp only [jx1] at hx
    split at hx
    · cases hx
      exact jG.ishl hd g
    · cases hx
  | ishr =>
    obtain rfl : len = 1 := by simpa [jlen] using hlen
    simp only [jx1] at hx
    split at hx
    · cases hx
      exact jG.ishr hd g
    · cases hx
  | iushr =>
    obtain rfl : len = 1 := by simpa [jlen] using hlen
    simp only [jx1] at hx
    split at hx
    · cases hx
      exact jG.iushr hd g
    · cases hx
  | ladd =>
    obtain rfl : len = 1 := by simpa [jlen] using hlen
    simp only [jx1] at hx
    split at hx
    · cases hx
      exact jG.ladd hd g
    · cases hx
  | lsub =>
    obtain rfl : len = 1 := by simpa [jlen] using hlen
    simp only [jx1] at hx
    split at hx
    · cases hx
      exact jG.lsub hd g
    · cases hx
  | lmul =>
    obtain rfl : len = 1 := by simpa [jlen] using hlen
    simp only [jx1] at hx
    split at hx
    · cases hx
      exact jG.lmul hd g
    · cases hx
  | land =>
    obtain rfl : len = 1 := by simpa [jlen] using hlen
    simp only [jx1] at hx
    split at hx
    · cases hx
      exact jG.land hd g
    · cases hx
  | lor =>
    obtain rfl : len = 1 := by simpa [jlen] using hlen
    simp only [jx1] at hx
    split at hx
    · cases hx
      exact jG.lor hd g
    · cases hx
  | lxor =>
    obtain rfl : len = 1 := by simpa [jlen] using hlen
    simp only [jx1] at hx
    split at hx
    · cases hx
      exact jG.lxor hd g
    · cases hx
  | lshl =>
    obtain rfl : len = 1 := by simpa [jlen] using hlen
    simp only [jx1] at hx
    split at hx
    · cases hx
      exact jG.lshl hd g
    · cases hx
  | lshr =>
    obtain rfl : len = 1 := by simpa [jlen] using hlen
    simp only [jx1] at hx
    split at hx
    · cases hx
      exact jG.lshr hd g
    · cases hx
  | lushr =>
    obtain rfl : len = 1 := by simpa [jlen] using hlen
    simp only [jx1] at hx
    split at hx
    · cases hx
      exact jG.lushr hd g
    · cases hx
  | ineg =>
    obtain rfl : len = 1 := by simpa [jlen] using hlen
    simp only [jx1] at hx
    split at hx
    · cases hx
      exact jG.ineg hd g
    · cases hx
  | i2l =>
    obtain rfl : len = 1 := by simpa [jlen] using hlen
    simp only [jx1] at hx
    split at hx
    · cases hx
      exact jG.i2l hd g
    · cases hx
  | l2i =>
    obtain rfl : len = 1 := by simpa [jlen] using hlen
    simp only [jx1] at hx
    split at hx
    · cases hx
      exact jG.l2i hd g
    · cases hx
  | i2b =>
    obtain rfl : len = 1 := by simpa [jlen] using hlen
    simp only [jx1] at hx
    split at hx
    · cases hx
      exact jG.i2b hd g
    · cases hx
  | i2c =>
    obtain rfl : len = 1 := by simpa [jlen] using hlen
    simp only [jx1] at hx
    split at hx
    · cases hx
      exact jG.i2c hd g
    · cases hx
  | lcmp =>
    obtain rfl : len = 1 := by simpa [jlen] using hlen
    simp only [jx1] at hx
    split at hx
    · cases hx
      exact jG.lcmp hd g
    · cases hx
  | idiv =>
    obtain rfl : len = 1 := by simpa [jlen] using hlen
    simp only [jx1] at hx
    split at hx
    · split at hx
      · rename_i hb
        cases hx
        exact jG.idiv hd hb g
      · cases hx
    · cases hx
  | irem =>
    obtain rfl : len = 1 := by simpa [jlen] using hlen
    simp only [jx1] at hx
    split at hx
    · split at hx
      · rename_i hb
        cases hx
        exact jG.irem hd hb g
      · cases hx
    · cases hx
  | dup =>
    obtain rfl : len = 1 := by simpa [jlen] using hlen
    simp only [jx1] at hx
    split at hx
    · split at hx
      · rename_i hb
        cases hx
        exact jG.dup hd hb g
      · cases hx
    · cases hx
  | pop =>
    obtain rfl : len = 1 := by simpa [jlen] using hlen
    simp only [jx1] at hx
    split at hx
    · split at hx
      · rename_i hb
        cases hx
        exact jG.pop hd hb g
      · cases hx
    · cases hx
  | dup_x1 =>
    obtain rfl : len = 1 := by simpa [jlen] using hlen
    simp only [jx1] at hx
    split at hx
    · split at hx
      · rename_i hb
        cases hx
        exact jG.dup_x1 hd hb.1 hb.2 g
      · cases hx
    · cases hx
  | dup2 =>
    obtain rfl : len = 1 := by simpa [jlen] using hlen
    simp only [jx1] at hx
    split at hx
    · split at hx
      · rename_i hb
        cases hx
        exact jG.dup2 hd hb.1 hb.2 g
      · cases hx
    · cases hx
  | getfield ix =>
    obtain rfl : len = 3 := by simpa [jlen] using hlen
    simp only [jx1, jokR] at hx hR
    split at hx
    · rename_i ci k wi ne x s
      split at hx
      · rename_i hc
        cases hx
        obtain ⟨C, T, N, hcl⟩ : ∃ C T N, jcl[ci.toNat]? = some (C, T, N) := jcl_all hc.1
        have e1 : jfl ci.toNat = T := by funext z; simp only [jfl, hcl]
        have e2 : jfn ci.toNat = N := by simp only [jfn, hcl]
        have ex : x = ((x.toNat : Nat) : Int) := by omega
        rw [ex]
        split at hR
        · rename_i hres
          cases hres
          simp only [Bool.and_eq_true, decide_eq_true_eq] at hR
          rw [e1, e2] at hR
          exact jG.getf hd hc.1 hcl (jcl_ok hcl) hR.1 (jwat_in hR.2) g
        · rename_i hres
          cases hres
          simp only [Bool.and_eq_true, decide_eq_true_eq] at hR
          rw [e1, e2] at hR
          exact jG.getfN hd hc.1 hcl (jcl_ok hcl) hR.1 (jnat_in hR.2) g
        · rename_i hres; cases hres
        · rename_i hres; cases hres
        · cases hR
      · cases hx
    · cases hx
  | putfield ix =>
    obtain rfl : len = 3 := by simpa [jlen] using hlen
    simp only [jx1, jokR] at hx hR
    split at hx
    · rename_i ci k wi ne v x s
      split at hx
      · rename_i hc
        cases hx
        obtain ⟨C, T, N, hcl⟩ : ∃ C T N, jcl[ci.toNat]? = some (C, T, N) := jcl_all hc.1
        have e1 : jfl ci.toNat = T := by funext z; simp only [jfl, hcl]
        have e2 : jfn ci.toNat = N := by simp only [jfn, hcl]
        have ex : x = ((x.toNat : Nat) : Int) := by omega
        rw [ex]
        have hp := jputb_ok hc.2.2
        split at hR
        · rename_i hres
          cases hres
          simp only [Bool.and_eq_true, decide_eq_true_eq, Bool.not_eq_true'] at hR
          rw [e1, e2] at hR
          exact jG.putf hd hc.1 hcl (jcl_ok hcl) hR.1.1 hR.1.2 hp (jwat_in hR.2) g
        · rename_i hres
          cases hres
          simp only [Bool.and_eq_true, decide_eq_true_eq, Bool.not_eq_true'] at hR
          rw [e1, e2] at hR
          exact jG.putfN hd hc.1 hcl (jcl_ok hcl) hR.1.1 hR.1.2 hp (jnat_in hR.2) g
        · cases hR
      · cases hx
    · cases hx
  | getstatic ix =>
    obtain rfl : len = 3 := by simpa [jlen] using hlen
    simp only [jx1, jokR] at hx hR
    split at hx
    · rename_i j wi ne
      split at hx
      · rename_i q hq
        cases hx
        have hv : jokV q.2.2.2 := jst_ok _ (List.mem_of_getElem? hq)
        split at hR
        · rename_i hres
          cases hres
          rw [hq] at hR
          exact jG.gets hd (List.mem_of_getElem? hq) (jwat_in hR) hv g
        · rename_i hres
          cases hres
          rw [hq] at hR
          exact jG.getsN hd (List.mem_of_getElem? hq) (jnat_in hR) hv g
        · cases hR
      · cases hx
    · cases hx
  | _ => simp [jx1] at hx
theorem jG.blk (hT : jokT2 M 0 (jt M) = true) : ∀ (k : Nat) {pc : Nat} {L : List (Nat × jV)} {st : List jV} {h : jH}, jxN (jt M) k pc L st h = some (pc1, L1, st1, h1) → jG E M pc1 L1 st1 h1 r h' → jG E M pc L st h r h' := by
  intro k
  induction k with
  | zero =>
    intro pc L st h hx g
    cases hx
    exact g
  | succ k ih =>
    intro pc L st h hx g
    unfold jxN at hx
    split at hx
    · rename_i i len res he
      split at hx
      · rename_i L2 st2 h2 h3
        exact jG.x1 hT he h3 (ih hx g)
      · cases hx
    · cases hx

/-! the same rules, by the table -/
theorem jT.iald {a n : Nat} {i : Int} (hT : jokT2 M 0 (jt M) = true) (he : (jt M)[pc]? = some (some (.iaload, 1, []))) (hk : jkd.getD a (9, 0) = (1, n)) (hn : (n : Int) < 2147483648) (h0 : 0 ≤ i) (h1 : i < (n : Int)) (g : jG E M (pc + 1) L ((0, h a i.toNat) :: st) h r h') : jG E M pc L ((0, i) :: (2, (a : Int)) :: st) h r h' := jG.iald (jokT_at hT he).1 hk hn h0 h1 g
theorem jT.bald {a n : Nat} {i : Int} (hT : jokT2 M 0 (jt M) = true) (he : (jt M)[pc]? = some (some (.baload, 1, []))) (hk : jkd.getD a (9, 0) = (3, n)) (hn : (n : Int) < 2147483648) (h0 : 0 ≤ i) (h1 : i < (n : Int)) (g : jG E M (pc + 1) L ((0, h a i.toNat) :: st) h r h') : jG E M pc L ((0, i) :: (2, (a : Int)) :: st) h r h' := jG.bald (jokT_at hT he).1 hk hn h0 h1 g
theorem jT.cald {a n : Nat} {i : Int} (hT : jokT2 M 0 (jt M) = true) (he : (jt M)[pc]? = some (some (.caload, 1, []))) (hk : jkd.getD a (9, 0) = (4, n)) (hn : (n : Int) < 2147483648) (h0 : 0 ≤ i) (h1 : i < (n : Int)) (g : jG E M (pc + 1) L ((0, h a i.toNat) :: st) h r h') : jG E M pc L ((0, i) :: (2, (a : Int)) :: st) h r h' := jG.cald (jokT_at hT he).1 hk hn h0 h1 g
theorem jT.lald {a n : Nat} {i : Int} (hT : jokT2 M 0 (jt M) = true) (he : (jt M)[pc]? = some (some (.laload, 1, []))) (hk : jkd.getD a (9, 0) = (2, n)) (hn : (n : Int) < 2147483648) (h0 : 0 ≤ i) (h1 : i < (n : Int)) (g : jG E M (pc + 1) L ((1, h a i.toNat) :: st) h r h') : jG E M pc L ((0, i) :: (2, (a : Int)) :: st) h r h' := jG.lald (jokT_at hT he).1 hk hn h0 h1 g
theorem jT.iast {a n : Nat} {i v : Int} (hT : jokT2 M 0 (jt M) = true) (he : (jt M)[pc]? = some (some (.iastore, 1, []))) (hk : jkd.getD a (9, 0) = (1, n)) (hn : (n : Int) < 2147483648) (h0 : 0 ≤ i) (h1 : i < (n : Int)) (g : jG E M (pc + 1) L st (jup h a i.toNat v) r h') : jG E M pc L ((0, v) :: (0, i) :: (2, (a : Int)) :: st) h r h' := jG.iast (jokT_at hT he).1 hk hn h0 h1 g
theorem jT.last {a n : Nat} {i v : Int} (hT : jokT2 M 0 (jt M) = true) (he : (jt M)[pc]? = some (some (.lastore, 1, []))) (hk : jkd.getD a (9, 0) = (2, n)) (hn : (n : Int) < 2147483648) (h0 : 0 ≤ i) (h1 : i < (n : Int)) (g : jG E M (pc + 1) L st (jup h a i.toNat v) r h') : jG E M pc L ((1, v) :: (0, i) :: (2, (a : Int)) :: st) h r h' := jG.last (jokT_at hT he).1 hk hn h0 h1 g
theorem jT.bast {a n : Nat} {i v : Int} (hT : jokT2 M 0 (jt M) = true) (he : (jt M)[pc]? = some (some (.bastore, 1, []))) (hk : jkd.getD a (9, 0) = (3, n)) (hn : (n : Int) < 2147483648) (h0 : 0 ≤ i) (h1 : i < (n : Int)) (hv0 : -128 ≤ v) (hv1 : v < 128) (g : jG E M (pc + 1) L st (jup h a i.toNat v) r h') : jG E M pc L ((0, v) :: (0, i) :: (2, (a : Int)) :: st) h r h' := jG.bast (jokT_at hT he).1 hk hn h0 h1 hv0 hv1 g
theorem jT.cast {a n : Nat} {i v : Int} (hT : jokT2 M 0 (jt M) = true) (he : (jt M)[pc]? = some (some (.castore, 1, []))) (hk : jkd.getD a (9, 0) = (4, n)) (hn : (n : Int) < 2147483648) (h0 : 0 ≤ i) (h1 : i < (n : Int)) (hv0 : 0 ≤ v) (hv1 : v < 65536) (g : jG E M (pc + 1) L st (jup h a i.toNat v) r h') : jG E M pc L ((0, v) :: (0, i) :: (2, (a : Int)) :: st) h r h' := jG.cast (jokT_at hT he).1 hk hn h0 h1 hv0 hv1 g
theorem jT.alen {a t n : Nat} (hT : jokT2 M 0 (jt M) = true) (he : (jt M)[pc]? = some (some (.arraylength, 1, []))) (hk : jkd.getD a (9, 0) = (t, n)) (ht : t = 1 ∨ t = 2 ∨ t = 3 ∨ t = 4) (hn : (n : Int) < 2147483648) (g : jG E M (pc + 1) L ((0, (n : Int)) :: st) h r h') : jG E M pc L ((2, (a : Int)) :: st) h r h' := jG.alen (jokT_at hT he).1 hk ht hn g
theorem jT.xald {x : Nat} {i : Int} (hT : jokT2 M 0 (jt M) = true) (he : (jt M)[pc]? = some (some (.iaload, 1, []))) (hx : x < jxn) (ht : jxt.getD x .int = .int) (hn : (jxl E x : Int) < 2147483648) (h0 : 0 ≤ i) (h1 : i < (jxl E x : Int)) (hv : ok32 (jxv E x i.toNat)) (g : jG E M (pc + 1) L ((0, jxv E x i.toNat) :: st) h r h') : jG E M pc L ((0, i) :: (3, (x : Int)) :: st) h r h' := jG.xald (jokT_at hT he).1 hx ht hn h0 h1 hv g
theorem jT.xbld {x : Nat} {i : Int} (hT : jokT2 M 0 (jt M) = true) (he : (jt M)[pc]? = some (some (.baload, 1, []))) (hx : x < jxn) (ht : jxt.getD x .int = .byte) (hn : (jxl E x : Int) < 2147483648) (h0 : 0 ≤ i) (h1 : i < (jxl E x : Int)) (hv : ok32 (jxv E x i.toNat)) (g : jG E M (pc + 1) L ((0, jxv E x i.toNat) :: st) h r h') : jG E M pc L ((0, i) :: (3, (x : Int)) :: st) h r h' := jG.xbld (jokT_at hT he).1 hx ht hn h0 h1 hv g
theorem jT.xlen {x : Nat} (hT : jokT2 M 0 (jt M) = true) (he : (jt M)[pc]? = some (some (.arraylength, 1, []))) (hx : x < jxn) (hn : (jxl E x : Int) < 2147483648) (g : jG E M (pc + 1) L ((0, (jxl E x : Int)) :: st) h r h') : jG E M pc L ((3, (x : Int)) :: st) h r h' := jG.xlen (jokT_at hT he).1 hx hn g
theorem jT.xcod {ix : Nat} {wi : Int} {q : Nat × Nat} (hT : jokT2 M 0 (jt M) = true) (he : (jt M)[pc]? = some (some (.getfield ix, 3, [0, wi]))) (hq : q ∈ jso) (g : jG E M (pc + 3) L ((0, 0) :: st) h r h') : jG E M pc L ((3, (q.1 : Int)) :: st) h r h' := jG.xcod (jokT_at hT he).1 hq (jwat_in (jokT_at hT he).2.2) g
theorem jT.xval {ix : Nat} {wi : Int} {q : Nat × Nat} (hT : jokT2 M 0 (jt M) = true) (he : (jt M)[pc]? = some (some (.getfield ix, 3, [1, wi]))) (hq : q ∈ jso) (g : jG E M (pc + 3) L ((3, (q.2 : Int)) :: st) h r h') : jG E M pc L ((3, (q.1 : Int)) :: st) h r h' := jG.xval (jokT_at hT he).1 hq (jwat_in (jokT_at hT he).2.2) g
theorem jT.if1 {cn : Jvm.ClassFile.Cond} {off : Int} {tgt : Nat} {x : Int} (hT : jokT2 M 0 (jt M) = true) (he : (jt M)[pc]? = some (some (.ifCond cn off, 3, []))) (ht : (pc : Int) + off = (tgt : Int)) (kt : jcn cn x 0 → jG E M tgt L st h r h') (kf : ¬ jcn cn x 0 → jG E M (pc + 3) L st h r h') : jG E M pc L ((0, x) :: st) h r h' := jG.if1 (jokT_at hT he).1 ht kt kf
theorem jT.if2 {cn : Jvm.ClassFile.Cond} {off : Int} {tgt : Nat} {x y : Int} (hT : jokT2 M 0 (jt M) = true) (he : (jt M)[pc]? = some (some (.if_icmp cn off, 3, []))) (ht : (pc : Int) + off = (tgt : Int)) (kt : jcn cn x y → jG E M tgt L st h r h') (kf : ¬ jcn cn x y → jG E M (pc + 3) L st h r h') : jG E M pc L ((0, y) :: (0, x) :: st) h r h' := jG.if2 (jokT_at hT he).1 ht kt kf
theorem jT.goto {off : Int} {tgt : Nat} (hT : jokT2 M 0 (jt M) = true) (he : (jt M)[pc]? = some (some (.goto off, 3, []))) (ht : (pc : Int) + off = (tgt : Int)) (g : jG E M tgt L st h r h') : jG E M pc L st h r h' := jG.goto (jokT_at hT he).1 ht g
theorem jT.lsw {d : Int} {ps : Array (Int × Int)} {len : Nat} {x off : Int} {tgt : Nat} (hT : jokT2 M 0 (jt M) = true) (he : (jt M)[pc]? = some (some (.lookupswitch d ps, len, []))) (hp : (ps.toList.zip (ps.toList.drop 1)).all (fun (a, next) => a.1 < next.1) = true) (ho : Op.lookupswitch.offset ps.toList d x = off) (ht : (pc : Int) + off = (tgt : Int)) (g : jG E M tgt L st h r h') : jG E M pc L ((0, x) :: st) h r h' := jG.lsw (jokT_at hT he).1 hp ho ht g
theorem jT.tswO {d lo hi : Int} {offs : Array Int} {len : Nat} {x : Int} {tgt : Nat} (hT : jokT2 M 0 (jt M) = true) (he : (jt M)[pc]? = some (some (.tableswitch d lo hi offs, len, []))) (hc : x < lo ∨ hi < x) (ht : (pc : Int) + d = (tgt : Int)) (g : jG E M tgt L st h r h') : jG E M pc L ((0, x) :: st) h r h' := jG.tswO (jokT_at hT he).1 hc ht g
theorem jT.tswI {d lo hi : Int} {offs : Array Int} {len : Nat} {x off : Int} {tgt : Nat} (hT : jokT2 M 0 (jt M) = true) (he : (jt M)[pc]? = some (some (.tableswitch d lo hi offs, len, []))) (h1 : ¬ x < lo) (h2 : ¬ hi < x) (ho : offs[(x - lo).toNat]? = some off) (ht : (pc : Int) + off = (tgt : Int)) (g : jG E M tgt L st h r h') : jG E M pc L ((0, x) :: st) h r h' := jG.tswI (jokT_at hT he).1 h1 h2 ho ht g
theorem jT.iret {x : Int} (hT : jokT2 M 0 (jt M) = true) (he : (jt M)[pc]? = some (some (.ireturn, 1, []))) (hr : jro (jr M) .ireturn (some (0, x))) : jG E M pc L [(0, x)] h (some (0, x)) h := jG.ret (r := some (0, x)) (jokT_at hT he).1 hr
theorem jT.lret {x : Int} (hT : jokT2 M 0 (jt M) = true) (he : (jt M)[pc]? = some (some (.lreturn, 1, []))) (hr : jro (jr M) .lreturn (some (1, x))) : jG E M pc L [(1, x)] h (some (1, x)) h := jG.ret (r := some (1, x)) (jokT_at hT he).1 hr
theorem jT.vret (hT : jokT2 M 0 (jt M) = true) (he : (jt M)[pc]? = some (some (.return_, 1, []))) (hr : jro (jr M) .return_ none) : jG E M pc L [] h none h := jG.ret (r := none) (jokT_at hT he).1 hr
theorem jT.cS {M1 : jM} {ix : Nat} {j wi : Int} {r1 : Option jV} (args1 rest : List jV) (hT : jokT2 M 0 (jt M) = true) (he : (jt M)[pc]? = some (some (.invokestatic ix, 3, [j, wi, 0]))) (hy : jyn.getD j.toNat ⟨"", "", ""⟩ = jy M1) (hM : jokM M1) (hk : jk M1 = 0) (hfr : jf M1 + 1 ≤ jf M) (hlo : 8 + (jL M1 + 11) + jlr M1 ≤ jlr M) (hn : args1.length = jn M1) (hrs : (rest.map fun v => if v.1 = 1 then 2 else 1).sum ≤ 8) (hC : jC E M1 args1 h r1 h1) (g : jG E M (pc + 3) L (r1.toList ++ rest) h1 r h') : jG E M pc L (args1.reverse ++ rest) h r h' := by
  have h2 := jokT_at hT he
  exact jG.callS args1 rest h2.1 hM hk (by rw [← hy]; exact jwat_in h2.2.2) hfr hlo hn hrs hC g
theorem jT.cSN {M1 : jM} {ix : Nat} {j wi : Int} {r1 : Option jV} (args1 rest : List jV) (hT : jokT2 M 0 (jt M) = true) (he : (jt M)[pc]? = some (some (.invokestatic ix, 3, [j, wi, 1]))) (hy : jyn.getD j.toNat ⟨"", "", ""⟩ = jy M1) (hM : jokM M1) (hk : jk M1 = 0) (hfr : jf M1 + 1 ≤ jf M) (hlo : 8 + (jL M1 + 11) + jlr M1 ≤ jlr M) (hn : args1.length = jn M1) (hrs : (rest.map fun v => if v.1 = 1 then 2 else 1).sum ≤ 8) (hC : jC E M1 args1 h r1 h1) (g : jG E M (pc + 3) L (r1.toList ++ rest) h1 r h') : jG E M pc L (args1.reverse ++ rest) h r h' := by
  have h2 := jokT_at hT he
  exact jG.callSN args1 rest h2.1 hM hk (by rw [← hy]; exact jnat_in h2.2.2) hfr hlo hn hrs hC g
theorem jT.cV {M1 : jM} {ix : Nat} {j wi : Int} {r1 : Option jV} (v1 : jV) (args1 rest : List jV) (hT : jokT2 M 0 (jt M) = true) (he : (jt M)[pc]? = some (some (.invokevirtual ix, 3, [j, wi, 0]))) (hy : jyn.getD j.toNat ⟨"", "", ""⟩ = jy M1) (hM : jokM M1) (hk : jk M1 = 1) (hv : jrc (jy M1).cls v1) (hfr : jf M1 + 1 ≤ jf M) (hlo : 8 + (jL M1 + 11) + jlr M1 ≤ jlr M) (hn : args1.length = jn M1) (hrs : (rest.map fun v => if v.1 = 1 then 2 else 1).sum ≤ 8) (hC : jC E M1 (v1 :: args1) h r1 h1) (g : jG E M (pc + 3) L (r1.toList ++ rest) h1 r h') : jG E M pc L (args1.reverse ++ v1 :: rest) h r h' := by
  have h2 := jokT_at hT he
  exact jG.callV v1 args1 rest h2.1 hM hk hv (by rw [← hy]; exact jwat_in h2.2.2) hfr hlo hn hrs hC g
theorem jT.cVN {M1 : jM} {ix : Nat} {j wi : Int} {r1 : Option jV} (v1 : jV) (args1 rest : List jV) (hT : jokT2 M 0 (jt M) = true) (he : (jt M)[pc]? = some (some (.invokevirtual ix, 3, [j, wi, 1]))) (hy : jyn.getD j.toNat ⟨"", "", ""⟩ = jy M1) (hM : jokM M1) (hk : jk M1 = 1) (hv : jrc (jy M1).cls v1) (hfr : jf M1 + 1 ≤ jf M) (hlo : 8 + (jL M1 + 11) + jlr M1 ≤ jlr M) (hn : args1.length = jn M1) (hrs : (rest.map fun v => if v.1 = 1 then 2 else 1).sum ≤ 8) (hC : jC E M1 (v1 :: args1) h r1 h1) (g : jG E M (pc + 3) L (r1.toList ++ rest) h1 r h') : jG E M pc L (args1.reverse ++ v1 :: rest) h r h' := by
  have h2 := jokT_at hT he
  exact jG.callVN v1 args1 rest h2.1 hM hk hv (by rw [← hy]; exact jnat_in h2.2.2) hfr hlo hn hrs hC g
theorem jT.acp {ix a0 a n0 n1 : Nat} {wi w2 w3 w4 : Int} {rest : List jV} (hT : jokT2 M 0 (jt M) = true) (he : (jt M)[pc]? = some (some (.invokestatic ix, 3, [wi, w2, w3, w4]))) (hk0 : jkd.getD a0 (9, 0) = (1, n0)) (hk1 : jkd.getD a (9, 0) = (1, n1)) (h0 : 64 ≤ n0) (h1 : 64 ≤ n1) (hf : 1 ≤ jf M) (hlo : 8 + (nativeFrameWords "java/lang/System" "arraycopy" 5 + 11) ≤ jlr M) (hrs : (rest.map fun v => if v.1 = 1 then 2 else 1).sum ≤ 8) (g : jG E M (pc + 3) L rest (jcp h a (fun k => if k < 64 then h a0 k else h a k)) r h') : jG E M pc L ((0, 64) :: (0, 0) :: (2, (a : Int)) :: (0, 0) :: (2, (a0 : Int)) :: rest) h r h' := by
  obtain ⟨hd, -, hR⟩ := jokT_at hT he
  simp only [jokR, Bool.and_eq_true] at hR
  obtain ⟨⟨⟨hw1, hw2⟩, hw3⟩, hw4⟩ := hR
  refine jG.hp g (fun _ oS oH => ⟨jokS_tl (jokS_tl (jokS_tl (jokS_tl (jokS_tl oS)))), jHok_cp oH (fun k => ?_)⟩) (fun hF hl oS oH hP hS k => ?_)
  · rw [jty_k hk1]
    by_cases hk : k < 64
    · rw [if_pos hk]
      have h2 := oH a0 k
      rw [jty_k hk0] at h2
      exact h2
    · rw [if_neg hk]
      have h2 := oH a k
      rw [jty_k hk1] at h2
      exact h2
  · have ha := jkd_lt hk1 (by decide)
    have hx0 := jwd_at (E := E) (h := h) (jkd_lt hk0 (by decide))
    have hx1 := jwd_at (E := E) (h := h) ha
    rw [jent_i _ hk0 (by decide)] at hx0
    rw [jent_i _ hk1 (by decide)] at hx1
    have hK := hF.2.2.2.2.2.2.1
    have hts := hF.2.2.2.2.2.1
    have e64 : (Int32.ofInt 64).toNatClampNeg = 64 := by decide
    have e0 : (Int32.ofInt 0).toNatClampNeg = 0 := by decide
    have hlr : jlr M ≤ _ := hF.2.2.2.2.2.2.2.2.2.2.1
    have hfr : jf M ≤ _ := hF.2.2.2.2.2.2.2.2.2.1
    refine va_copyi (rest := rest.map (tv E)) hF.1 hF.2.1 (hF.2.2.1.trans hl.1.symm) hF.2.2.2.2.1 (hts _ (jwat_in hw1)) (hts _ (jwat_in hw2)) (hts _ (jwat_in hw3)) (hts _ (jwat_in hw4)) hK hP (jwd_D hF.2.2.2.2.2.2.2.2.1) hS a0 a 0 0 hx0 hx1 (by rfl : (jtys E)[0]? = some (jca E 1, .int)) (by rfl : (jtys E)[0]? = some (jca E 1, .int)) rfl (by decide) (by decide) (by decide) (by rw [e0, e64]; omega) (by rw [e0, e64]; omega) (fun _ _ => rfl) (Nat.le_trans hf hfr) (by rw [jcats]; omega) hd (fun H1 locs1 hP1 _ hS1 => k H1 locs1 ?_ hS1)
    rw [e0, e64] at hP1
    have e := jwd_cp (E := E) (h := h) ha (fun k => if k < 64 then h a0 k else h a k)
    rw [jent_i _ hk1 (by decide)] at e
    have e2 : (fun j => Int32.ofInt (if j < 64 then h a0 j else h a j)) = va_cpy (fun j => Int32.ofInt (h a0 j)) (fun j => Int32.ofInt (h a j)) 0 0 64 := by
      funext j
      unfold va_cpy
      by_cases hj : j < 64
      · rw [if_pos hj, if_pos ⟨Nat.zero_le _, by omega⟩, Nat.zero_add, Nat.sub_zero]
      · rw [if_neg hj, if_neg (fun z => hj (by omega))]
    rw [e2] at e
    rw [e] at hP1
    exact hP1
theorem jT.mabs {ix : Nat} {wi w2 w3 w4 : Int} {a : Int} {rest : List jV} (hT : jokT2 M 0 (jt M) = true) (he : (jt M)[pc]? = some (some (.invokestatic ix, 3, [0, wi, w2, w3, w4]))) (hf : 1 ≤ jf M) (hlo : 8 + 13 ≤ jlr M) (hrs : (rest.map fun v => if v.1 = 1 then 2 else 1).sum ≤ 8) (g : jG E M (pc + 3) L ((0, if 0 ≤ a then a else jsub 0 a) :: rest) h r h') : jG E M pc L ((0, a) :: rest) h r h' := by
  obtain ⟨hd, -, hR⟩ := jokT_at hT he
  simp only [jokR, Bool.and_eq_true] at hR
  obtain ⟨⟨⟨hw1, hw2⟩, hw3⟩, hw4⟩ := hR
  refine jG.hp g (fun _ oS oH => ⟨jokS_cons ?_ (jokS_tl oS), oH⟩) (fun hF hl oS oH hP hS k => ?_)
  · show ok32 _
    have oa : ok32 a := jokS_hd oS
    split
    · exact oa
    · exact w32_ok _
  · have hts := hF.2.2.2.2.2.1
    have hlr : jlr M ≤ _ := hF.2.2.2.2.2.2.2.2.2.2.1
    have hfr : jf M ≤ _ := hF.2.2.2.2.2.2.2.2.2.1
    refine va_mabs (rest := rest.map (tv E)) hF.1 hF.2.1 (hF.2.2.1.trans hl.1.symm) hF.2.2.2.2.1 (hts _ (jwat_in hw1)) (hts _ (jwat_in hw2)) (hts _ (jwat_in hw3)) (hts _ (jwat_in hw4)) (Nat.le_trans hf hfr) (by rw [jcats]; omega) hF.2.2.2.2.2.2.2.2.2.2.2.1 hF.2.2.2.2.2.2.2.2.2.2.2.2 hd ?_
    have oa : ok32 a := jokS_hd oS
    have e : (if 0 ≤ Int32.ofInt a then Int32.ofInt a else 0 - Int32.ofInt a) = Int32.ofInt (if 0 ≤ a then a else jsub 0 a) := by
      have e4 := jn_le ok32_0 oa
      rw [j0e] at e4
      by_cases hab : 0 ≤ a
      · rw [if_pos hab, if_pos (e4.mpr hab)]
      · rw [if_neg hab, if_neg (fun z => hab (e4.mp z)), ← jn_sub, j0e]
    rw [e]
    exact k _ _ hP hS
theorem jT.mmax {ix : Nat} {wi w2 w3 w4 : Int} {a b : Int} {rest : List jV} (hT : jokT2 M 0 (jt M) = true) (he : (jt M)[pc]? = some (some (.invokestatic ix, 3, [1, wi, w2, w3, w4]))) (hf : 1 ≤ jf M) (hlo : 8 + 13 ≤ jlr M) (hrs : (rest.map fun v => if v.1 = 1 then 2 else 1).sum ≤ 8) (g : jG E M (pc + 3) L ((0, if a < b then b else a) :: rest) h r h') : jG E M pc L ((0, b) :: (0, a) :: rest) h r h' := by
  obtain ⟨hd, -, hR⟩ := jokT_at hT he
  simp only [jokR, Bool.and_eq_true] at hR
  obtain ⟨⟨⟨hw1, hw2⟩, hw3⟩, hw4⟩ := hR
  refine jG.hp g (fun _ oS oH => ⟨jokS_cons ?_ (jokS_tl (jokS_tl oS)), oH⟩) (fun hF hl oS oH hP hS k => ?_)
  · show ok32 _
    have ob : ok32 b := jokS_hd oS
    have oa : ok32 a := jokS_hd (jokS_tl oS)
    split
    · exact ob
    · exact oa
  · have hts := hF.2.2.2.2.2.1
    have hlr : jlr M ≤ _ := hF.2.2.2.2.2.2.2.2.2.2.1
    have hfr : jf M ≤ _ := hF.2.2.2.2.2.2.2.2.2.1
    refine va_mmax (rest := rest.map (tv E)) hF.1 hF.2.1 (hF.2.2.1.trans hl.1.symm) hF.2.2.2.2.1 (hts _ (jwat_in hw1)) (hts _ (jwat_in hw2)) (hts _ (jwat_in hw3)) (hts _ (jwat_in hw4)) (Nat.le_trans hf hfr) (by rw [jcats]; omega) hF.2.2.2.2.2.2.2.2.2.2.2.1 hF.2.2.2.2.2.2.2.2.2.2.2.2 hd ?_
    have ob : ok32 b := jokS_hd oS
    have oa : ok32 a := jokS_hd (jokS_tl oS)
    have e : (if Int32.ofInt a < Int32.ofInt b then Int32.ofInt b else Int32.ofInt a) = Int32.ofInt (if a < b then b else a) := by
      by_cases hab : a < b
      · rw [if_pos hab, if_pos ((jn_lt oa ob).mpr hab)]
      · rw [if_neg hab, if_neg (fun z => hab ((jn_lt oa ob).mp z))]
    rw [e]
    exact k _ _ hP hS
theorem jT.mmin {ix : Nat} {wi w2 w3 w4 : Int} {a b : Int} {rest : List jV} (hT : jokT2 M 0 (jt M) = true) (he : (jt M)[pc]? = some (some (.invokestatic ix, 3, [2, wi, w2, w3, w4]))) (hf : 1 ≤ jf M) (hlo : 8 + 13 ≤ jlr M) (hrs : (rest.map fun v => if v.1 = 1 then 2 else 1).sum ≤ 8) (g : jG E M (pc + 3) L ((0, if b < a then b else a) :: rest) h r h') : jG E M pc L ((0, b) :: (0, a) :: rest) h r h' := by
  obtain ⟨hd, -, hR⟩ := jokT_at hT he
  simp only [jokR, Bool.and_eq_true] at hR
  obtain ⟨⟨⟨hw1, hw2⟩, hw3⟩, hw4⟩ := hR
  refine jG.hp g (fun _ oS oH => ⟨jokS_cons ?_ (jokS_tl (jokS_tl oS)), oH⟩) (fun hF hl oS oH hP hS k => ?_)
  · show ok32 _
    have ob : ok32 b := jokS_hd oS
    have oa : ok32 a := jokS_hd (jokS_tl oS)
    split
    · exact ob
    · exact oa
  · have hts := hF.2.2.2.2.2.1
    have hlr : jlr M ≤ _ := hF.2.2.2.2.2.2.2.2.2.2.1
    have hfr : jf M ≤ _ := hF.2.2.2.2.2.2.2.2.2.1
    refine va_mmin (rest := rest.map (tv E)) hF.1 hF.2.1 (hF.2.2.1.trans hl.1.symm) hF.2.2.2.2.1 (hts _ (jwat_in hw1)) (hts _ (jwat_in hw2)) (hts _ (jwat_in hw3)) (hts _ (jwat_in hw4)) (Nat.le_trans hf hfr) (by rw [jcats]; omega) hF.2.2.2.2.2.2.2.2.2.2.2.1 hF.2.2.2.2.2.2.2.2.2.2.2.2 hd ?_
    have ob : ok32 b := jokS_hd oS
    have oa : ok32 a := jokS_hd (jokS_tl oS)
    have e : (if Int32.ofInt b < Int32.ofInt a then Int32.ofInt b else Int32.ofInt a) = Int32.ofInt (if b < a then b else a) := by
      by_cases hab : b < a
      · rw [if_pos hab, if_pos ((jn_lt ob oa).mpr hab)]
      · rw [if_neg hab, if_neg (fun z => hab ((jn_lt ob oa).mp z))]
    rw [e]
    exact k _ _ hP hS
end JX
