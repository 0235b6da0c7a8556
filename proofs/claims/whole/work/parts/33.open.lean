set_option maxRecDepth 100000 in
set_option maxHeartbeats 8000000 in
theorem whole_open (hlaw : ∀ E : jE, jsl E ≤ 2560 → (∀ j, ok32 (jsx E j)) → ∃ h' : jH, f_L_law E jh0 = some (1, h')) {p : Program} {e : Env} {s : State} {m : MethodId} {below : List Frame} {meth : Method} {c : Code} (l : Launch) {b L : Nat} {xs : Nat → Int32} (hL : L ≤ 2560) (C0 : lw_At p s m meth c b L xs) : W p l e room_1 s m #[Value.ref b] below meth c s.heap [] 0 0 (lw_Z below #[Value.ref b] s) (entryFrame m ([Value.ref b] : List Value).toArray 4) := by
  obtain ⟨hx, hb, hr, hml, hown, hts, hX, hbl, hlk, hgv⟩ := C0
  have htw : ∀ w ∈ jWS, w.before #[Value.ref b] s = true := fun w hw => hts w (List.mem_filter.mp hw).1
  have hN : ∀ w ∈ jNW, va_Nw w s := by
    intro w hw
    have h6 := hts w (List.mem_filter.mp hw).1
    have h7 := jNW_is hw
    cases w <;> first | exact va_Nw.of rfl h6 | (simp [jnest] at h7)
  obtain ⟨D, hKc⟩ := k_classes htw
  obtain ⟨cA, hKa⟩ := k_arrays htw
  have hK : va_K D jcl (ktys cA) s := ⟨hKc, hKa⟩
  have hl := lv_entry ([.ref b]) (n := 4) (Nat.le_of_ble_eq_true rfl)
  rw [lg_entry_eq]
  generalize (lg_sl ([.ref b]) ++ List.replicate (4 - (lg_sl ([.ref b])).length) Slot.unset).toArray = ls at hl ⊢
  have hl : lv_has ls 4 [(0, .ref b)] := hl
  generalize hAe : (fun q : Nat => s.heap.size ≤ q) = A
  have hA : ∀ q : Nat, s.heap.size ≤ q → A q := fun q h => by rw [← hAe]; exact h
  have hS : va_S A s.heap s.heap [] := va_S.rf
  have hP : va_P D jcl [] s.heap := fun k q h => by simp at h
  have hD : va_D A [] := ⟨fun i j p q h => by simp at h, fun k q h => by simp at h⟩
  refine va_new (ci := 0) (fs := [.null, .null, .null, .null, .null, .null, .null, .null, .null, .int 0]) (C := "ChessLedger") (T := jT0) (N := 10) hx hb htw jcw0 kty0 kty0_ok hown (htw _ (jwat_in (i := 88) (by decide +kernel))) (htw _ (jwat_in (i := 89) (by decide +kernel))) (htw _ (jwat_in (i := 71) (by decide +kernel))) hK hP hD hS hA rfl (by decide +kernel) (Nat.le_of_ble_eq_true rfl) (Nat.le_of_ble_eq_true rfl) (kok_at kLp_ok rfl) (fun qx H hP hD hS => ?_)
  have hP : va_P D jcl ([(qx, .inr (0, [.null, .null, .null, .null, .null, .null, .null, .null, .null, .int 0]))]) H := hP
  have hD : va_D A ([(qx, .inr (0, [.null, .null, .null, .null, .null, .null, .null, .null, .null, .int 0]))]) := hD
  refine W.widen (k := 1) (n := 10) (Nat.le_of_ble_eq_true rfl) (Nat.le_of_ble_eq_true rfl) ?_
  refine lv_dup hx hb (kok_at kLp_ok rfl) rfl ?_
  have hPc := hP.sub (ws' := [(qx, .inr (0, [.null, .null, .null, .null, .null, .null, .null, .null, .null, .int 0]))]) [0] rfl
  have hDc := hD.sub (ws' := [(qx, .inr (0, [.null, .null, .null, .null, .null, .null, .null, .null, .null, .int 0]))]) [0] (by decide) rfl
  have hFc := va_free (wc := [(qx, .inr (0, [.null, .null, .null, .null, .null, .null, .null, .null, .null, .int 0]))]) hD hS hA [0] rfl
  refine va_callv (va_runI (As := []) (rest := [.ref qx]) ⟨hx, hb, hml, hown, htw⟩ (c_X_init l D cA qx H.size) (cwI 0 htw (kgood (jwat_in (i := 92) (by decide +kernel))) rfl rfl rfl (htw _ (jwat_in (i := 71) (by decide +kernel))) (htw _ (jwat_in (i := 90) (by decide +kernel))) (htw _ (jwat_in (i := 91) (by decide +kernel))) rfl (by decide +kernel) ⟨Nat.le_of_ble_eq_true rfl, Nat.le_of_ble_eq_true rfl⟩) (kpre hK hN hPc hDc) rfl rfl hl.1 rfl (lv_room (Nat.le_of_ble_eq_true rfl)) (kok_at kLp_ok rfl) ⟨Nat.le_of_ble_eq_true rfl, Nat.le_of_ble_eq_true rfl⟩) hS (fun q _ h => hFc q h) hFc (fun u t H1 locs ht hvm _ hB hz1 hk1 hS => ?_)
  obtain ⟨hP1, hD1⟩ := hB
  rw [ht] at hP1
  obtain ⟨hP, hD⟩ := va_join (wr := []) (w1 := kw_X cA qx u) hP hD [0] [] rfl rfl (by decide) (by decide) hk1 hFc hP1 hD1
  generalize H1 = H at hP hS ⊢
  refine W.widen (k := 24) (n := 3935) (Nat.le_of_ble_eq_true rfl) (Nat.le_of_ble_eq_true rfl) ?_
  have hP : va_P D jcl (kw_X cA qx u) H := hP
  have hD : va_D A (kw_X cA qx u) := hD
  refine lv_astore_n hx hb (kok_at kLp_ok rfl) rfl hl (by decide) (lv' := [(1, .ref qx), (0, .ref b)]) rfl (fun ls hl => ?_)
  refine va_new (ci := 7) (fs := [.int 0, .null, .null, .null, .null, .null, .null, .int 0, .int 0, .null, .int 0, .int 0, .int 0, .null, .int 0]) (C := "ChessLedgerModel") (T := jT7) (N := 15) hx hb htw jcw7 kty7 kty7_ok hown (htw _ (jwat_in (i := 780) (by decide +kernel))) (htw _ (jwat_in (i := 781) (by decide +kernel))) (htw _ (jwat_in (i := 78) (by decide +kernel))) hK hP hD hS hA rfl (by decide +kernel) (Nat.le_of_ble_eq_true rfl) (Nat.le_of_ble_eq_true rfl) (kok_at kLp_ok rfl) (fun qm H hP hD hS => ?_)
  have hP : va_P D jcl (kw_X cA qx u ++ [(qm, .inr (7, [.int 0, .null, .null, .null, .null, .null, .null, .int 0, .int 0, .null, .int 0, .int 0, .int 0, .null, .int 0]))]) H := hP
  have hD : va_D A (kw_X cA qx u ++ [(qm, .inr (7, [.int 0, .null, .null, .null, .null, .null, .null, .int 0, .int 0, .null, .int 0, .int 0, .int 0, .null, .int 0]))]) := hD
  refine W.widen (k := 25) (n := 3950) (Nat.le_of_ble_eq_true rfl) (Nat.le_of_ble_eq_true rfl) ?_
  refine lv_dup hx hb (kok_at kLp_ok rfl) rfl ?_
  have hPc := hP.sub (ws' := [(qm, .inr (7, [.int 0, .null, .null, .null, .null, .null, .null, .int 0, .int 0, .null, .int 0, .int 0, .int 0, .null, .int 0]))]) [24] rfl
  have hDc := hD.sub (ws' := [(qm, .inr (7, [.int 0, .null, .null, .null, .null, .null, .null, .int 0, .int 0, .null, .int 0, .int 0, .int 0, .null, .int 0]))]) [24] (by decide) rfl
  have hFc := va_free (wc := [(qm, .inr (7, [.int 0, .null, .null, .null, .null, .null, .null, .int 0, .int 0, .null, .int 0, .int 0, .int 0, .null, .int 0]))]) hD hS hA [24] rfl
  refine va_callv (va_runI (As := []) (rest := [.ref qm]) ⟨hx, hb, hml, hown, htw⟩ (c_M_init l D cA qm H.size) (cwI 0 htw (kgood (jwat_in (i := 784) (by decide +kernel))) rfl rfl rfl (htw _ (jwat_in (i := 78) (by decide +kernel))) (htw _ (jwat_in (i := 782) (by decide +kernel))) (htw _ (jwat_in (i := 783) (by decide +kernel))) rfl (by decide +kernel) ⟨Nat.le_of_ble_eq_true rfl, Nat.le_of_ble_eq_true rfl⟩) (kpre hK hN hPc hDc) rfl rfl hl.1 rfl (lv_room (Nat.le_of_ble_eq_true rfl)) (kok_at kLp_ok rfl) ⟨Nat.le_of_ble_eq_true rfl, Nat.le_of_ble_eq_true rfl⟩) hS (fun q _ h => hFc q h) hFc (fun v t H1 locs ht hvm _ hB hz1 hk1 hS => ?_)
  obtain ⟨hP1, hD1⟩ := hB
  rw [ht] at hP1
  obtain ⟨hP, hD⟩ := va_join (wr := kw_X cA qx u) (w1 := kw_M cA qm v) hP hD [24] [0, 1, 2, 3, 4, 5, 6, 7, 8, 9, 10, 11, 12, 13, 14, 15, 16, 17, 18, 19, 20, 21, 22, 23] rfl rfl (by decide) (by decide) hk1 hFc hP1 hD1
  generalize H1 = H at hP hS ⊢
  refine W.widen (k := 33) (n := 25126) (Nat.le_of_ble_eq_true rfl) (Nat.le_of_ble_eq_true rfl) ?_
  refine lv_astore_n hx hb (kok_at kLp_ok rfl) rfl hl (by decide) (lv' := [(2, .ref qm), (1, .ref qx), (0, .ref b)]) rfl (fun ls hl => ?_)
  unfold kw_M at hP hD
  rw [kupd] at hP hD
  have hA3 : ∀ a : Nat, a < s.heap.size → ¬ A a := fun a ha h => by rw [← hAe] at h; exact Nat.not_le.mpr ha h
  obtain ⟨ex, fo, hex0, hExt⟩ := k_ext (A := A) htw hts hgv hX (by omega) hA3 hbl
  generalize hE : ((l, D, cA, (fun i => ([qx, u 1, u 2, u 3, u 4, u 5, u 6, u 7, u 8, u 9, u 10, u 11, u 12, u 13, u 14, u 15, u 16, u 17, u 18, u 19, u 20, u 21, u 22, u 23, qm, v 1, v 2, v 3, v 4, v 5, v 6, v 7, v 8] : List Nat).getD i 0), ex, L, (fun j => (xs j).toInt), fo) : jE) = E
  have hXE : jX E A s s.heap := by rw [← hE]; exact hExt l D cA _
  have hP : va_P (jeD E) jcl (jwd E jh0) H := by rw [← hE]; exact hP
  have hD : va_D A (jwd E jh0) := by rw [← hE]; exact hD
  have hKE : va_K (jeD E) jcl (jtys E) s := by rw [← hE]; exact hK
  have hA2 : jA E A := by
    refine ⟨fun i j hi hj e => hD.1 i j _ _ (jwd_at hi) (jwd_at hj) e, fun i hi => hD.2 i _ (jwd_at hi)⟩
  have hsl : jsl E = L := by rw [← hE]
  have hsx : ∀ j, ok32 (jsx E j) := by intro j; rw [← hE]; exact jn_ok _
  obtain ⟨h', hlw⟩ := hlaw E (by omega) hsx
  have hG := C_L_law E ⟨by omega, hsx⟩ hlw
  have hel : jel E = l := by rw [← hE]
  have hl : lv_has ls (jL M_L_law) (([(0, (3, ((0 : Nat) : Int))), (1, (2, ((0 : Nat) : Int))), (2, (2, ((24 : Nat) : Int)))] : List (Nat × jV)).map (jtp E)) := by
    rw [← hE]
    have hl2 : lv_has ls 4 [(2, .ref qm), (1, .ref qx), (0, .ref (ex 0))] := by rw [hex0]; exact hl
    exact lv_sub hl2 [2, 1, 0] rfl
  rw [← hel]
  refine hG A p e room_1 s m _ below meth c 33 25126 _ ⟨hx, hb, hml, hlk, hown, htw, hKE, hXE, hA2, Nat.le_of_ble_eq_true rfl, Nat.le_of_ble_eq_true rfl, Nat.le_of_ble_eq_true rfl, Nat.le_of_ble_eq_true rfl⟩ ?_ H _ ls (fun q hq => ?_) (fun q hq => by cases hq) jh0_ok hl hP hS
  · intro pc' ls' H' locs' i hd hro _ _ hP' hS'
    refine va_forget (fun q hq => by have h9 := hS'.2.2 q hq; rw [← hAe] at h9; exact h9) ?_
    cases i <;> first | exact hro.elim | exact lw_ret hx hb hr hlk hd
  · simp only [List.mem_cons, List.not_mem_nil, or_false] at hq
    rcases hq with rfl | rfl | rfl <;> trivial
