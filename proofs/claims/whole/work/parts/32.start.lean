/-! THE CLAIM OUT OF ONE WALK OF THE LAW'S BODY. Your part is whole_start (and what it stands on); all else here is the same for every law, but numbers. -/
def R_law : String := "ChessLedgerLaw"
def lw_P (b : Addr) (xs : List Int32) (args : Array Value) (s : State) : Prop := args = #[.ref b] ∧ s.IntsAt b xs ∧ xs.length ≤ 2560 ∧ (Jvm.Cond.and given_1 narrow_1).before args s = true
def lw_Q (_ : Array Value) (s : State) (o : Outcome) (t : State) : Prop := o = .returned (some (.int 1)) ∧ Framed s o t [] 33 25126
def lw_Z (below : List Frame) (a : Array Value) (s : State) : State → Prop := fun t => ∃ o, t.status = .running ∧ Ended t below o ∧ lw_Q a s o t
/-- the law's own end, with 1 on the stack, nothing written that was there before, its room as the claim has it -/
theorem lw_ret {p : Program} {l : Launch} {e : Env} {s : State} {m : MethodId} {below : List Frame} {meth : Method} {c : Code} {b : Nat} (hx : p.tables.exec = Jvm.exec) (hb : c.code = code) (hr : meth.sig.returnType = ret) (hlocks : meth.locks = false) {pc : Nat} {H : Heap} {ls : Array Slot} (hdg : decode code pc = .ok (.ireturn, 1)) : W p l e room_1 s m #[Value.ref b] below meth c H [] 33 25126 (lw_Z below #[Value.ref b] s) (F0 m pc ls [.int 1]) := by
  intro T hT X
  obtain ⟨fs, hret, hrun, hended, hW, hframe⟩ := X.leave (v := some (.int 1)) (hlocks := hlocks) (fun h => by rw [hr] at h; cases h)
  have hmeth' : T.vm.method? m = some meth := X.method'
  refine ⟨T.setFrames fs, ?_, .returned (some (.int 1)), hrun, hended, rfl, ⟨_, rfl⟩, hW, hframe⟩
  jvm_step X.here [X.here.top, hx, hb, hdg, hmeth', hr, ret, narrow_b1]
  (try refine ⟨rfl, ?_⟩); (try refine ⟨rfl, ?_⟩)
  first | (intro acts; rw [hret _ acts rfl rfl rfl]) | rw [hret _ _ rfl rfl rfl]
  exact Steps.refl _
/-- what holds at the law's entry: the machine, the code, the tables' words (any of lw_tbl by 'hts w (by decide +kernel)'), the script of L ints xs at the cell b, what the Statement gives of the start (any of its parts by flat_of_before) -/
def lw_At (p : Program) (s : State) (m : MethodId) (meth : Method) (c : Code) (b L : Nat) (xs : Nat → Int32) : Prop :=
  p.tables.exec = Jvm.exec ∧ c.code = code ∧ meth.sig.returnType = ret ∧ c.maxLocals = 4 ∧ s.vm.findClass R_law = some m.cls ∧ (∀ w ∈ lw_tbl, w.before #[Value.ref b] s = true) ∧ va_X b L xs s s.heap ∧ b < s.heap.size ∧ meth.locks = false ∧ (Jvm.Cond.and given_1 narrow_1).before #[Value.ref b] s = true
def kLp : List (Option jI) := [some (.new 7, 3, []), none, none, some (.dup, 1, []), some (.invokespecial 9, 3, []), none, none, some (.astore_n 1, 1, []), some (.new 10, 3, []), none, none, some (.dup, 1, []), some (.invokespecial 12, 3, []), none, none, some (.astore_n 2, 1, [])]
theorem kLp_ok : kok2 code 0 kLp = true := by decide +kernel
/-- the cells as the constructors leave them -/
def jh0 : jH := fun a => if a = 2 ∨ a = 20 ∨ a = 17 then (fun k => if k = 3 then -1 else 0) else if a = 28 then (fun k => if k = 0 then -1 else 0) else fun _ => 0
theorem jokT_0 (t : Nat) : jokT t 0 := by
  match t with
  | 0 => exact ok32_0
  | 1 => exact ⟨by decide, by decide⟩
  | 2 => trivial
  | 3 => exact Or.inl rfl
  | 4 => exact ⟨by decide, by decide⟩
  | 5 => exact ⟨by decide, by decide⟩
  | _ + 6 => trivial
theorem jh0_ok : jHok jh0 := by
  intro a k
  unfold jh0
  by_cases h1 : a = 2 ∨ a = 20 ∨ a = 17
  · rw [if_pos h1]
    by_cases h2 : k = 3
    · rw [if_pos h2, h2]
      rcases h1 with rfl | rfl | rfl <;> exact ⟨by decide, by decide⟩
    · rw [if_neg h2]; exact jokT_0 _
  · rw [if_neg h1]
    by_cases h3 : a = 28
    · rw [if_pos h3, h3]
      by_cases h2 : k = 0
      · rw [if_pos h2, h2]; exact ⟨by decide, by decide⟩
      · rw [if_neg h2]; exact jokT_0 _
    · rw [if_neg h3]; exact jokT_0 _
theorem kupd : (upd (fun _ => 0) 0 (-1) : Nat → Int32) = fun j => Int32.ofInt (if j = 0 then -1 else 0) := by
  funext j
  unfold upd
  by_cases hj : j = 0
  · rw [if_pos hj, if_pos hj]; rfl
  · rw [if_neg hj, if_neg hj]; rfl
theorem k_classes {s : State} {args : Array Value} (htw : ∀ w ∈ jWS, w.before args s = true) : ∃ D : va_G, ∀ (c : Nat) (q : vw_C), jcl[c]? = some q → u_Kn s q.1 q.2.1 q.2.2 (D.1 c) (D.2 c) := by
  have h : ∀ c : Nat, ∃ x : ClassId × (Nat → Nat), ∀ q : vw_C, jcl[c]? = some q → u_Kn s q.1 q.2.1 q.2.2 x.1 x.2 := by
    intro c
    match c with
    | 0 =>
      obtain ⟨cC, iS, hh⟩ := u_known (n := 10) htw jcw0 (htw _ (jwat_in (i := 89) (by decide +kernel)))
      exact ⟨(cC, iS), fun q hq => by cases hq; exact hh⟩
    | 1 =>
      obtain ⟨cC, iS, hh⟩ := u_known (n := 5) htw jcw1 (htw _ (jwat_in (i := 103) (by decide +kernel)))
      exact ⟨(cC, iS), fun q hq => by cases hq; exact hh⟩
    | 2 =>
      obtain ⟨cC, iS, hh⟩ := u_known (n := 7) htw jcw2 (htw _ (jwat_in (i := 97) (by decide +kernel)))
      exact ⟨(cC, iS), fun q hq => by cases hq; exact hh⟩
    | 3 =>
      obtain ⟨cC, iS, hh⟩ := u_known (n := 2) htw jcw3 (htw _ (jwat_in (i := 185) (by decide +kernel)))
      exact ⟨(cC, iS), fun q hq => by cases hq; exact hh⟩
    | 4 =>
      obtain ⟨cC, iS, hh⟩ := u_known (n := 1) htw jcw4 (htw _ (jwat_in (i := 174) (by decide +kernel)))
      exact ⟨(cC, iS), fun q hq => by cases hq; exact hh⟩
    | 5 =>
      obtain ⟨cC, iS, hh⟩ := u_known (n := 4) htw jcw5 (htw _ (jwat_in (i := 198) (by decide +kernel)))
      exact ⟨(cC, iS), fun q hq => by cases hq; exact hh⟩
    | 6 =>
      obtain ⟨cC, iS, hh⟩ := u_known (n := 2) htw jcw6 (htw _ (jwat_in (i := 204) (by decide +kernel)))
      exact ⟨(cC, iS), fun q hq => by cases hq; exact hh⟩
    | 7 =>
      obtain ⟨cC, iS, hh⟩ := u_known (n := 15) htw jcw7 (htw _ (jwat_in (i := 781) (by decide +kernel)))
      exact ⟨(cC, iS), fun q hq => by cases hq; exact hh⟩
    | k + 8 => exact ⟨(0, fun _ => 0), fun q hq => by simp [jcl] at hq⟩
  exact ⟨(fun c => (Classical.choose (h c)).1, fun c => (Classical.choose (h c)).2), fun c q hq => Classical.choose_spec (h c) q hq⟩
theorem k_arrays {s : State} {args : Array Value} (htw : ∀ w ∈ jWS, w.before args s = true) : ∃ cA : Nat → ClassId, ∀ (k : Nat) (q : ClassId × FieldType), (ktys cA)[k]? = some q → ArrOfT s q.1 q.2 ∧ va_RA s q.1 q.2 := by
  obtain ⟨c1, k1, p1, a1, a2, a3⟩ := Cond.arrayClass_spec (type := .int) (htw _ (jwat_in (i := 148) (by decide +kernel)))
  obtain ⟨c2, k2, p2, b1, b2, b3⟩ := Cond.arrayClass_spec (type := .long) (htw _ (jwat_in (i := 183) (by decide +kernel)))
  obtain ⟨c3, k3, p3, d1, d2, d3⟩ := Cond.arrayClass_spec (type := .byte) (htw _ (jwat_in (i := 728) (by decide +kernel)))
  obtain ⟨c4, k4, p4, e1, e2, e3⟩ := Cond.arrayClass_spec (type := .char) (htw _ (jwat_in (i := 217) (by decide +kernel)))
  refine ⟨fun t => ([0, c1, c2, c3, c4] : List ClassId).getD t 0, fun k q hq => ?_⟩
  match k, hq with
  | 0, hq => cases hq; exact ⟨fun n z => ⟨fun k h => (by cases h), k1, a2, p1, a3⟩, a1⟩
  | 1, hq => cases hq; exact ⟨fun n z => ⟨fun k h => (by cases h), k2, b2, p2, b3⟩, b1⟩
  | 2, hq => cases hq; exact ⟨fun n z => ⟨fun k h => (by cases h), k3, d2, p3, d3⟩, d1⟩
  | 3, hq => cases hq; exact ⟨fun n z => ⟨fun k h => (by cases h), k4, e2, p4, e3⟩, e1⟩
  | k + 4, hq => simp [ktys] at hq
theorem kbyt {t N x : Nat} {f : Nat → Int32} {A : Nat → Prop} {s : State} {H : Heap} (h : va_T .byte t N (fun j => .int (f j)) A s H) (hf : N = (jxc.getD x []).length ∧ ∀ j, j < N → f j = Int32.ofInt ((jxc.getD x []).getD j 0)) : va_T .byte t (jxc.getD x []).length (fun j => .int (Int32.ofInt ((jxc.getD x []).getD j 0))) A s H := by
  obtain ⟨h1, h2⟩ := hf
  subst h1
  obtain ⟨cell, a1, a2, a3, a4, a5, a6, a7⟩ := h
  exact ⟨cell, a1, a2, a3, a4, a5, fun j hj => by rw [a6 j hj]; show some (Value.int (f j)) = _; rw [h2 j hj], a7⟩
theorem kstr {own tx : String} {k : Nat} {A : Array Value} {U : State} (h : (Cond.stringRef own k tx).before A U = true) : (Cond.stringRef own k tx).before #[] U = true := by
  first
    | exact va_tabs rfl rfl h
    | (simp only [Cond.before, Cond.holds, Cond.value] at h ⊢; exact h)
theorem kstrE {own : String} {k a : Nat} {A : Array Value} {U : State} (h : (Term.string own k).eval A U none [] U = some (.ref a)) : (Term.string own k).eval #[] U none [] U = some (.ref a) := by
  first
    | (rw [Term.string_eval_of_vm (args := #[]) (rfl : U.vm = U.vm)]; exact h)
    | exact h
set_option maxRecDepth 100000 in
set_option maxHeartbeats 4000000 in
theorem k_ext {s : State} {b Ls : Nat} {xs : Nat → Int32} {A : Nat → Prop} (htw : ∀ w ∈ jWS, w.before #[Value.ref b] s = true) (hall : ∀ w ∈ lw_tbl, w.before #[Value.ref b] s = true) (hgv : (Jvm.Cond.and given_1 narrow_1).before #[Value.ref b] s = true) (hX : va_X b Ls xs s s.heap) (hLs : Ls < 2 ^ 31) (hA : ∀ a : Nat, a < s.heap.size → ¬ A a) (hb : b < s.heap.size) :
    ∃ (ex : Nat → Nat) (fo : Option Nat), ex 0 = b ∧ ∀ (l : Launch) (D : va_G) (cA : Nat → ClassId) (ad : Nat → Nat), jX (l, D, cA, ad, ex, Ls, (fun j => (xs j).toInt), fo) A s s.heap := by
  have hs := flat_of_before _ hgv
  obtain ⟨t1, ht1, hT1⟩ := va_Tof (tm := .static "ChessLedger" "FILE_STEPS" "[I") (ty := .int) (N := 8) (f := fun j => .int (Int32.ofInt ((jxc.getD 1 []).getD j 0))) (A := A) (by decide) (hs _ (by decide +kernel)) (va_eqt (hs (.eq (.length (.static "ChessLedger" "FILE_STEPS" "[I")) (.int 8)) (by decide +kernel))) (fun j hj => va_eqt (hs (.eq (.elem (.static "ChessLedger" "FILE_STEPS" "[I") (.int (Int32.ofNat j))) (.int (Int32.ofInt ((jxc.getD 1 []).getD j 0)))) ((by decide +kernel : ∀ j, j < 8 → Jvm.Cond.eq (.elem (.static "ChessLedger" "FILE_STEPS" "[I") (.int (Int32.ofNat j))) (.int (Int32.ofInt ((jxc.getD 1 []).getD j 0))) ∈ flatC (Jvm.Cond.and given_1 narrow_1)) j hj))) hA
  have hZ1 := va_Zref (C := "ChessLedger") (n := "FILE_STEPS") (d := "[I") (hall _ (List.mem_of_getElem? (i := 372) (by decide +kernel))) (htw _ (jwat_in (i := 71) (by decide +kernel))) ht1 hA
  obtain ⟨t2, ht2, hT2⟩ := va_Tof (tm := .static "ChessLedger" "RANK_STEPS" "[I") (ty := .int) (N := 8) (f := fun j => .int (Int32.ofInt ((jxc.getD 2 []).getD j 0))) (A := A) (by decide) (hs _ (by decide +kernel)) (va_eqt (hs (.eq (.length (.static "ChessLedger" "RANK_STEPS" "[I")) (.int 8)) (by decide +kernel))) (fun j hj => va_eqt (hs (.eq (.elem (.static "ChessLedger" "RANK_STEPS" "[I") (.int (Int32.ofNat j))) (.int (Int32.ofInt ((jxc.getD 2 []).getD j 0)))) ((by decide +kernel : ∀ j, j < 8 → Jvm.Cond.eq (.elem (.static "ChessLedger" "RANK_STEPS" "[I") (.int (Int32.ofNat j))) (.int (Int32.ofInt ((jxc.getD 2 []).getD j 0))) ∈ flatC (Jvm.Cond.and given_1 narrow_1)) j hj))) hA
  have hZ2 := va_Zref (C := "ChessLedger") (n := "RANK_STEPS") (d := "[I") (hall _ (List.mem_of_getElem? (i := 374) (by decide +kernel))) (htw _ (jwat_in (i := 71) (by decide +kernel))) ht2 hA
  obtain ⟨t3, ht3, hT3⟩ := va_Tof (tm := .static "ChessLedger" "KNIGHT_FILES" "[I") (ty := .int) (N := 8) (f := fun j => .int (Int32.ofInt ((jxc.getD 3 []).getD j 0))) (A := A) (by decide) (hs _ (by decide +kernel)) (va_eqt (hs (.eq (.length (.static "ChessLedger" "KNIGHT_FILES" "[I")) (.int 8)) (by decide +kernel))) (fun j hj => va_eqt (hs (.eq (.elem (.static "ChessLedger" "KNIGHT_FILES" "[I") (.int (Int32.ofNat j))) (.int (Int32.ofInt ((jxc.getD 3 []).getD j 0)))) ((by decide +kernel : ∀ j, j < 8 → Jvm.Cond.eq (.elem (.static "ChessLedger" "KNIGHT_FILES" "[I") (.int (Int32.ofNat j))) (.int (Int32.ofInt ((jxc.getD 3 []).getD j 0))) ∈ flatC (Jvm.Cond.and given_1 narrow_1)) j hj))) hA
  have hZ3 := va_Zref (C := "ChessLedger") (n := "KNIGHT_FILES") (d := "[I") (hall _ (List.mem_of_getElem? (i := 398) (by decide +kernel))) (htw _ (jwat_in (i := 71) (by decide +kernel))) ht3 hA
  obtain ⟨t4, ht4, hT4⟩ := va_Tof (tm := .static "ChessLedger" "KNIGHT_RANKS" "[I") (ty := .int) (N := 8) (f := fun j => .int (Int32.ofInt ((jxc.getD 4 []).getD j 0))) (A := A) (by decide) (hs _ (by decide +kernel)) (va_eqt (hs (.eq (.length (.static "ChessLedger" "KNIGHT_RANKS" "[I")) (.int 8)) (by decide +kernel))) (fun j hj => va_eqt (hs (.eq (.elem (.static "ChessLedger" "KNIGHT_RANKS" "[I") (.int (Int32.ofNat j))) (.int (Int32.ofInt ((jxc.getD 4 []).getD j 0)))) ((by decide +kernel : ∀ j, j < 8 → Jvm.Cond.eq (.elem (.static "ChessLedger" "KNIGHT_RANKS" "[I") (.int (Int32.ofNat j))) (.int (Int32.ofInt ((jxc.getD 4 []).getD j 0))) ∈ flatC (Jvm.Cond.and given_1 narrow_1)) j hj))) hA
  have hZ4 := va_Zref (C := "ChessLedger") (n := "KNIGHT_RANKS") (d := "[I") (hall _ (List.mem_of_getElem? (i := 400) (by decide +kernel))) (htw _ (jwat_in (i := 71) (by decide +kernel))) ht4 hA
  have hZ5 : va_Z "java/lang/String" "COMPACT_STRINGS" "Z" (.int 1) A s s.heap := va_Zof (hall _ (List.mem_of_getElem? (i := 669) (by decide +kernel))) (htw _ (jwat_in (i := 84) (by decide +kernel))) (va_eqi (hs (.eq (.static "java/lang/String" "COMPACT_STRINGS" "Z") (.int 1)) (by decide +kernel))) hA
  obtain ⟨fo, hZ6⟩ : ∃ fo : Option Nat, va_Z "jdk/internal/util/Preconditions" "SIOOBE_FORMATTER" "Ljava/util/function/BiFunction;" (va_rf fo) A s s.heap := by
    rcases va_Zqof (A := A) (hall _ (List.mem_of_getElem? (i := 677) (by decide +kernel))) (htw _ (jwat_in (i := 86) (by decide +kernel))) (hs (.isRef (.static "jdk/internal/util/Preconditions" "SIOOBE_FORMATTER" "Ljava/util/function/BiFunction;")) (by decide +kernel)) hA with h | ⟨t, h⟩
    · exact ⟨none, h⟩
    · exact ⟨some t, h⟩
  obtain ⟨adK, adV, hSS, hEv⟩ := vk_Sof (args := #[Value.ref b]) (s := s) (N := 2) (tm := (fun i => if i = 0 then Term.string "ChessLedger$Reader" 86 else Term.string "ChessLedger$Reader" 94)) (len := [12, 4]) (byt := [[80, 78, 66, 82, 81, 75, 112, 110, 98, 114, 113, 107], [75, 81, 107, 113]]) (A := A) (by decide)
    (fun i hi => hs _ ((by decide +kernel : ∀ i, i < 2 → Cond.exactly ((fun i => if i = 0 then Term.string "ChessLedger$Reader" 86 else Term.string "ChessLedger$Reader" 94) i) "java/lang/String" ∈ flatC (Jvm.Cond.and given_1 narrow_1)) i hi))
    (fun i hi => hs _ ((by decide +kernel : ∀ i, i < 2 → Cond.eq (.field ((fun i => if i = 0 then Term.string "ChessLedger$Reader" 86 else Term.string "ChessLedger$Reader" 94) i) "java/lang/String" "coder" "B") (.int 0) ∈ flatC (Jvm.Cond.and given_1 narrow_1)) i hi))
    (fun i hi => hs _ ((by decide +kernel : ∀ i, i < 2 → Cond.arrayOf (.field ((fun i => if i = 0 then Term.string "ChessLedger$Reader" 86 else Term.string "ChessLedger$Reader" 94) i) "java/lang/String" "value" "[B") .byte ∈ flatC (Jvm.Cond.and given_1 narrow_1)) i hi))
    (fun i hi => hs _ ((by decide +kernel : ∀ i, i < 2 → Cond.eq (.length (.field ((fun i => if i = 0 then Term.string "ChessLedger$Reader" 86 else Term.string "ChessLedger$Reader" 94) i) "java/lang/String" "value" "[B")) (.int (Int32.ofNat (([12, 4] : List Nat).getD i 0))) ∈ flatC (Jvm.Cond.and given_1 narrow_1)) i hi))
    (fun i hi j hj => hs _ ((by decide +kernel : ∀ i, i < 2 → ∀ j, j < ([12, 4] : List Nat).getD i 0 → Cond.eq (.elem (.field ((fun i => if i = 0 then Term.string "ChessLedger$Reader" 86 else Term.string "ChessLedger$Reader" 94) i) "java/lang/String" "value" "[B") (.int (Int32.ofNat j))) (.int ((([[80, 78, 66, 82, 81, 75, 112, 110, 98, 114, 113, 107], [75, 81, 107, 113]] : List (List Int32)).getD i []).getD j 0)) ∈ flatC (Jvm.Cond.and given_1 narrow_1)) i hi j hj))
    (fun i j hi hj hne => by
      have h01 := hs (.not (.eq (.string "ChessLedger$Reader" 86) (.string "ChessLedger$Reader" 94))) (by decide +kernel)
      match i, j, hi, hj, hne with
      | 0, 0, _, _, hne => exact absurd rfl hne
      | 1, 1, _, _, hne => exact absurd rfl hne
      | 0, 1, _, _, _ => exact Or.inl h01
      | 1, 0, _, _, _ => exact Or.inr h01)
    hA
  have k0 : (Term.string "ChessLedger$Reader" 86).eval #[Value.ref b] s none [] s = some (.ref (adK 0)) := hEv 0 (by decide)
  have k1 : (Term.string "ChessLedger$Reader" 94).eval #[Value.ref b] s none [] s = some (.ref (adK 1)) := hEv 1 (by decide)
  have k2 := va_eqR (hs (.eq (.string "ChessLedger$Reader" 86) (.string "ChessLedger$Text" 40)) (by decide +kernel)) k0
  have k3 := va_eqR (hs (.eq (.string "ChessLedger$Reader" 94) (.string "ChessLedger$Text" 70)) (by decide +kernel)) k1
  have hTs : va_T .int b Ls (fun j => .int (Int32.ofInt (xs j).toInt)) A s s.heap := by
    obtain ⟨scr, h1, h2, h3, h4, h5⟩ := hX
    exact ⟨scr, h1, h2, h3, by omega, by rw [h4], fun j hj => by rw [h5 j hj]; show _ = some (Value.int (Int32.ofInt (xs j).toInt)); rw [Int32.ofInt_toInt], hA b hb⟩
  refine ⟨fun i => ([b, t1, t2, t3, t4, adV 0, adV 1, adK 0, adK 1] : List Nat).getD i 0, fo, rfl, fun l D cA ad => ⟨fun e he => ?_, fun q hq => ?_, fun q hq => ?_, fun q hq => ?_, fun w hw => ?_⟩⟩
  · match e, he with
    | 0, _ => exact hTs
    | 1, _ => exact hT1
    | 2, _ => exact hT2
    | 3, _ => exact hT3
    | 4, _ => exact hT4
    | 5, _ => exact kbyt (hSS.1 0 (by decide)).2.2.2 (by decide)
    | 6, _ => exact kbyt (hSS.1 1 (by decide)).2.2.2 (by decide)
  · simp only [jst, List.mem_cons, List.not_mem_nil, or_false] at hq
    rcases hq with rfl | rfl | rfl | rfl | rfl | rfl
    · exact hZ1
    · exact hZ2
    · exact hZ3
    · exact hZ4
    · exact hZ5
    · exact hZ6
  · simp only [jsr, List.mem_cons, List.not_mem_nil, or_false] at hq
    rcases hq with rfl | rfl | rfl | rfl
    · exact vk_R.of (A := #[]) (kstr (hall (.stringRef "ChessLedger$Reader" 86 "PNBRQKpnbrqk") (List.mem_of_getElem? (i := 659) (by decide +kernel)))) (kstrE k0)
    · exact vk_R.of (A := #[]) (kstr (hall (.stringRef "ChessLedger$Reader" 94 "KQkq") (List.mem_of_getElem? (i := 709) (by decide +kernel)))) (kstrE k1)
    · exact vk_R.of (A := #[]) (kstr (hall (.stringRef "ChessLedger$Text" 40 "PNBRQKpnbrqk") (List.mem_of_getElem? (i := 747) (by decide +kernel)))) (kstrE k2)
    · exact vk_R.of (A := #[]) (kstr (hall (.stringRef "ChessLedger$Text" 70 "KQkq") (List.mem_of_getElem? (i := 757) (by decide +kernel)))) (kstrE k3)
  · simp only [jso, List.mem_cons, List.not_mem_nil, or_false] at hq
    rcases hq with rfl | rfl
    · exact ⟨(hSS.1 0 (by decide)).1, (hSS.1 0 (by decide)).2.1, (hSS.1 0 (by decide)).2.2.1⟩
    · exact ⟨(hSS.1 1 (by decide)).1, (hSS.1 1 (by decide)).2.1, (hSS.1 1 (by decide)).2.2.1⟩
  · have h6 := hall w (List.mem_filter.mp hw).1
    have h7 := jNW_is hw
    cases w <;> first | exact va_Nw.of rfl h6 | (simp [jnest] at h7)
