/-! the code of move i; how many moves: both sides -/
theorem cc_rowk (L : Nat → Nat → Nat → Prop) (e x : Nat) (hx : x < 64) {k : Nat} (hk : k ≤ 64) : cc L (4096 * e + 64 * x + k) = cc L (4096 * e + 64 * x) + sm (fun f => ind (L f x e)) k := by
  unfold cc
  rw [sm_split]
  congr 1
  exact sm_congr k (fun f hf => by
    unfold lgc
    rw [show (4096 * e + 64 * x + f) % 64 = f by omega, show (4096 * e + 64 * x + f) / 64 % 64 = x by omega, show (4096 * e + 64 * x + f) / 4096 = e by omega])
theorem so_ok (h0 g : jH) (L : Nat → Nat → Nat → Prop) (hT : Tb 11 h0 g L) (hL : becL L) {e x : Nat} (hx : x < 64) : ∃ src, f_Mt_sourcesOf g (e : Int) (x : Int) = some src ∧ ∀ f, f < 64 → (bt src f = true ↔ L f x e) := by
  unfold f_Mt_sourcesOf
  rw [jgd_pos (by omega), jgd_pos (by omega), Int.toNat_natCast]
  by_cases c : e = 0
  · subst c
    rw [if_pos (by omega)]
    exact ⟨_, rfl, (hT.2 0 (by omega) x hx).2⟩
  · rw [if_neg (by omega)]
    exact ⟨_, rfl, fun f hf => ((hT.2 1 (by omega) x hx).2 f hf).trans (hL f x e hf hx (by omega)).symm⟩
theorem cdX_in (h0 g : jH) (L : Nat → Nat → Nat → Prop) (hT : Tb 11 h0 g L) (hL : becL L) (i : Nat) (hi : i < 20480) {e : Nat} (he : e < 5) (k : Int → Int → Option Int) (s : Int) (hs : s = (i : Int) - (cc L (4096 * e) : Int)) (hle : cc L (4096 * e) ≤ i) :
    (f_Mt_codeOf_lp12 g (e : Int) k 1000 s 0 = k ((i : Int) - (cc L (4096 * (e + 1)) : Int)) 64 ∧ cc L (4096 * (e + 1)) ≤ i) ∨ ∃ v, f_Mt_codeOf_lp12 g (e : Int) k 1000 s 0 = some v ∧ cdS L i v := by
  have run := lp_run (fun n (x : Nat) (s : Int) => f_Mt_codeOf_lp12 g (e : Int) k n s (x : Int)) 64 (fun s => k s 64) (fun o => ∃ v, o = some v ∧ cdS L i v)
    (fun x s => s = (i : Int) - (cc L (4096 * e + 64 * x) : Int) ∧ cc L (4096 * e + 64 * x) ≤ i) (by
      intro n s _
      show f_Mt_codeOf_lp12 _ _ _ (n + 1) s _ = _
      rw [f_Mt_codeOf_lp12, if_pos (by omega)]; rfl) (by
      rintro n x s hx ⟨h1, h2⟩
      show (∃ s', _ ∧ f_Mt_codeOf_lp12 _ _ _ (n + 1) s _ = f_Mt_codeOf_lp12 _ _ _ n s' ((x + 1 : Nat) : Int)) ∨ ∃ v, f_Mt_codeOf_lp12 _ _ _ (n + 1) s _ = some v ∧ _
      obtain ⟨src, s1, s2⟩ := so_ok h0 g L hT hL (e := e) hx
      have cnt := bc_sm 64 s2
      have row := cc_row L e x hx
      have l64 := bc_le (bt src) 64
      rw [f_Mt_codeOf_lp12, if_neg (by omega), s1]
      simp only [obs]
      rw [bcn_ok]
      simp only [obs]
      by_cases c : ((bc (bt src) 64 : Nat) : Int) ≤ s
      · left
        rw [if_pos c, jsub_eq (by omega) (by omega), jadd_eq (a := (x : Int)) (by omega) (by omega)]
        refine ⟨_, ⟨?_, ?_⟩, rfl⟩
        · rw [show 4096 * e + 64 * (x + 1) = 4096 * e + 64 * x + 64 by omega, row]; omega
        · rw [show 4096 * e + 64 * (x + 1) = 4096 * e + 64 * x + 64 by omega, row]; omega
      · right
        obtain ⟨m, hm⟩ : ∃ m : Nat, s = (m : Int) := ⟨s.toNat, by omega⟩
        obtain ⟨j, j1, j2, j3, j4⟩ := bn_ok g src m (by omega)
        rw [if_neg c, hm, j1]
        simp only [obs]
        rw [jmul_eq (by omega) (by omega), jadd_eq (a := (j : Int)) (by omega) (by omega), jmul_eq (by omega) (by omega), jadd_eq (by omega) (by omega)]
        refine ⟨_, rfl, Or.inl ⟨4096 * e + 64 * x + j, by omega, ?_, ?_, by omega⟩⟩
        · unfold lgc
          rw [show (4096 * e + 64 * x + j) % 64 = j by omega, show (4096 * e + 64 * x + j) / 64 % 64 = x by omega, show (4096 * e + 64 * x + j) / 4096 = e by omega]
          exact (s2 j j2).mp j3
        · rw [cc_rowk L e x hx (by omega), ← bc_sm j (fun f hf => s2 f (by omega)), j4]; omega) 64 0 s 1000 (by omega) ⟨hs, hle⟩ (by omega)
  rcases run with ⟨s', ⟨r1, r2⟩, r3⟩ | r
  · left
    rw [show 4096 * e + 64 * 64 = 4096 * (e + 1) by omega] at r1 r2
    exact ⟨by rw [r1] at r3; exact r3, r2⟩
  · exact Or.inr r
theorem cdX_ok (h0 g : jH) (L : Nat → Nat → Nat → Prop) (hT : Tb 11 h0 g L) (hL : becL L) (i : Nat) (hi : i < 20480) : ∃ v, f_Mt_codeOf g (i : Int) = some v ∧ cdS L i v := by
  unfold f_Mt_codeOf
  refine lp_ex (fun n (e : Nat) (s : Int) => f_Mt_codeOf_lp4 g (fun l11 l12 => some (-1)) n s (e : Int)) 5 (fun _ => some (-1)) (fun o => ∃ v, o = some v ∧ cdS L i v) (fun e s => s = (i : Int) - (cc L (4096 * e) : Int) ∧ cc L (4096 * e) ≤ i) ?_ ?_ ?_ (i : Int) 1000 ?_ (by omega)
  · intro n s _
    show f_Mt_codeOf_lp4 _ _ (n + 1) s _ = _
    rw [f_Mt_codeOf_lp4, if_pos (by omega)]
  · rintro n e s he ⟨h1, h2⟩
    show (∃ s', _ ∧ f_Mt_codeOf_lp4 _ _ (n + 1) s _ = f_Mt_codeOf_lp4 _ _ n s' ((e + 1 : Nat) : Int)) ∨ ∃ v, f_Mt_codeOf_lp4 _ _ (n + 1) s _ = some v ∧ _
    rw [f_Mt_codeOf_lp4, if_neg (by omega), jadd_eq (a := (e : Int)) (by omega) (by omega)]
    rcases cdX_in h0 g L hT hL i hi he (fun l9 l10 => f_Mt_codeOf_lp4 g (fun l11 l12 => some (-1)) n l9 ((e : Int) + 1)) s h1 h2 with ⟨r1, r2⟩ | r
    · left; exact ⟨_, ⟨rfl, r2⟩, r1⟩
    · right; exact r
  · rintro s ⟨h1, h2⟩
    exact ⟨-1, rfl, Or.inr ⟨h2, rfl⟩⟩
  · exact ⟨by rw [show cc L (4096 * 0) = 0 from rfl]; omega, Nat.zero_le _⟩
/- one bit of a word -/
theorem shr_tab : ∀ s : Nat, s < 64 → (((Int32.ofInt (s : Int)).toInt64 &&& 63).toBitVec.smod 64).toNat = s := by decide +kernel
theorem bt_shr {v : Int} {s : Nat} (hs : s < 64) : bt (jlshr v (s : Int)) 0 = bt v s := by
  unfold bt jlshr
  rw [bv_of, Int64.toBitVec_shiftRight, BitVec.sshiftRight_eq', shr_tab s hs, BitVec.getLsbD_sshiftRight, Int64.toBitVec_ofInt]
  simp [hs]
theorem bit_z {v : Int} {s : Nat} (hs : s < 64) : jcmp (jland (jlshr v (s : Int)) 1) 0 = 0 ↔ bt v s = false := by
  rw [jcmp_0, bt_zero (jland_ok _ _)]
  constructor
  · intro h
    have := h 0 (by omega)
    rw [bt_and, bt_shr hs] at this
    simpa [show bt 1 0 = true from by decide] using this
  · intro h i hi
    rw [bt_and]
    by_cases c : i = 0
    · rw [c, bt_shr hs, h]; rfl
    · have : bt 1 i = false := by
        rw [bt_uv, show uv 1 = 2 ^ 0 from by decide, Nat.testBit_two_pow]
        simp; omega
      rw [this]; simp
theorem hd_ok (h0 g : jH) (L : Nat → Nat → Nat → Prop) (hT : Tb 11 h0 g L) (hL : becL L) {a : Int} (ha : ok32 a) : YN (f_Mt_holds g a) (0 ≤ a ∧ a < 20480 ∧ lgc L a.toNat) := by
  unfold f_Mt_holds
  obtain ⟨a0, a1⟩ := ha
  by_cases c1 : a < 0
  · rw [if_pos c1]; exact yn0 (fun q => by omega)
  · rw [if_neg c1]
    by_cases c2 : a < 20480
    · obtain ⟨n, rfl⟩ : ∃ n : Nat, a = (n : Int) := ⟨a.toNat, by omega⟩
      rw [if_pos c2, jshr12 (by omega) (by omega), jshr6 (by omega) (by omega), jand63 (by omega) (by omega), jand63 (by omega) (by omega), show (n : Int) / 4096 = ((n / 4096 : Nat) : Int) by omega, show (n : Int) / 64 % 64 = ((n / 64 % 64 : Nat) : Int) by omega, show (n : Int) % 64 = ((n % 64 : Nat) : Int) by omega]
      obtain ⟨src, s1, s2⟩ := so_ok h0 g L hT hL (e := n / 4096) (x := n / 64 % 64) (by omega)
      rw [s1]
      simp only [obs]
      have s3 := s2 (n % 64) (by omega)
      rw [Int.toNat_natCast]
      by_cases c : jcmp (jland (jlshr src ((n % 64 : Nat) : Int)) 1) 0 = 0
      · rw [if_pos c]
        have := (bit_z (by omega)).mp c
        refine yn0 (fun q => ?_)
        have := s3.mpr q.2.2
        simp_all
      · rw [if_neg c]
        refine yn1 ⟨by omega, c2, s3.mp ?_⟩
        cases e : bt src (n % 64) with
        | true => rfl
        | false => exact absurd ((bit_z (by omega)).mpr e) c
    · rw [if_neg c2]; exact yn0 (fun q => by omega)
/- facts of legal moves -/
theorem pw_dir {b : Nat → Int} {side file : Int} {f x : Nat} {c : Int} (hB : BR b) (hS : side = 0 ∨ side = 1) (hf : f < 64) (ho : sd (b f) = side) (hk : kd (b f) = 1) (hm : mpw b side file f x c) : ((x : Int) / 8 - (f : Int) / 8 = fwd side ∧ ((attR b f x ∧ dfl f x = 1) ∨ (stp1 b side f x))) ∨ ((x : Int) / 8 - (f : Int) / 8 = 2 * fwd side ∧ stp2 b side f x) := by
  have har : ahd side = 8 * fwd side := by unfold ahd fwd; split <;> rfl
  have hfr : fwd side = 1 ∨ fwd side = -1 := by unfold fwd; split <;> omega
  rcases hm.2 with ⟨q, -⟩ | ⟨-, q | q⟩
  · left
    have hv := own_pawn (hB f hf).1 (hB f hf).2 hS hk ho
    have q' := q
    rcases q with q | q | q | q | q | q
    · refine ⟨?_, Or.inl ⟨q', q.2.1⟩⟩
      rw [q.2.2, hv]; unfold fwd
      rcases hS with e | e <;> rw [e] <;> decide
    all_goals (have := q.1; omega)
  · left; refine ⟨by have := q.1; omega, Or.inr q⟩
  · right; refine ⟨by have := q.2.1; omega, q⟩
theorem lg_bec (b : Nat → Int) (side rights file : Int) : becL (fun f x c => lgl b side rights file f x (c : Int)) := by
  intro f x c hf hx hc
  have e1 : ((0 : Int) < (c : Int)) ↔ (0 : Int) < ((1 : Nat) : Int) := by omega
  have e2 : ((c : Int) = 0) ↔ (((1 : Nat) : Int) = 0) := by omega
  show lgl b side rights file f x (c : Int) ↔ lgl b side rights file f x ((1 : Nat) : Int)
  unfold lgl mgo mpw
  rw [e1, e2]
theorem lg_f1 {b : Nat → Int} {side rights file : Int} {f x : Nat} (hP : PosR b side rights file) (hf : f < 64) (hx : x < 64) (hk : kd (b f) = 1) (hl : x < 8 ∨ 55 < x) : ¬ lgl b side rights file f x ((0 : Nat) : Int) := by
  obtain ⟨hB, ⟨hS, hr0, hr1, hf0, hf1⟩, hK, hpw, hrg, hfl⟩ := hP
  rintro ⟨⟨ho, _, hm⟩, _⟩
  have h8 := hpw f hf hk
  rcases hm with ⟨_, hm⟩ | hm
  · have hd := pw_dir hB hS hf ho hk hm
    have hl2 := hm.1
    unfold lastR at hl2
    unfold fwd at hd
    rcases hS with e | e <;> subst e
    · rw [if_pos rfl] at hl2 hd
      have : (x : Int) / 8 = 7 := by rcases hd with q | q <;> omega
      have := hl2.mp this
      omega
    · rw [if_neg (by decide)] at hl2 hd
      have : (x : Int) / 8 = 0 := by rcases hd with q | q <;> omega
      have := hl2.mp this
      omega
  · exact absurd hk hm.1
theorem lg_f0 {b : Nat → Int} {side rights file : Int} {f x : Nat} (hS : side = 0 ∨ side = 1) (hn : ¬ (kd (b f) = 1 ∧ (x < 8 ∨ 55 < x))) : ¬ lgl b side rights file f x ((1 : Nat) : Int) := by
  rintro ⟨⟨ho, _, hm⟩, _⟩
  rcases hm with ⟨hk, hm⟩ | hm
  · apply hn
    refine ⟨hk, ?_⟩
    have := hm.1.mpr (by omega)
    unfold lastR at this
    rcases hS with e | e <;> subst e
    · rw [if_pos rfl] at this; omega
    · rw [if_neg (by decide)] at this; omega
  · have := hm.2.1; omega
def lgM (h : jH) (p : Nat) (f x c : Nat) : Prop := lgl (mb h p) (h 26 p) (h 27 p) (h 28 p) f x (c : Int)
theorem il_ok (h : jH) {p f x : Nat} (hp : p < 304) (hf : f < 64) (hB : BR (mb h p)) : f_M_isLast h (p : Int) (f : Int) (x : Int) = some (if kd (mb h p f) = 1 then if (x : Int) < 8 then 1 else if (x : Int) ≤ 55 then 0 else 1 else 0) := by
  unfold f_M_isLast
  rw [pc_ok h hp hf]
  simp only [obs]
  rw [kdM_ok h (hB f hf).1 (hB f hf).2]
  simp only [obs]
theorem mo_ok (h : jH) {p : Nat} (hp : p < 304) (hP : PosM h p) : f_M_movesOf h (p : Int) = some (((nm (lgM h p) : Nat) : Int), h) := by
  have hP' := hP
  obtain ⟨hB, ⟨hS, hr0, hr1, hf0, hf1⟩, hK, hpw, hrg, hfl⟩ := hP
  have inner : ∀ (f : Nat), f < 64 → ∀ (k : Int → Int → jH → Option (Int × jH)) (s : Int), 0 ≤ s → s ≤ 320 * (f : Int) →
      f_M_movesOf_lp28 (p : Int) (f : Int) k 1000 s 0 h = k (s + ((sm (fun x => ind (lgM h p f x 0) + 4 * ind (lgM h p f x 1)) 64 : Nat) : Int)) 64 h := by
    intro f hf k s s0 s1
    obtain ⟨s', ⟨g1, g2⟩, g3⟩ := lp_all (fun n (i : Nat) (s : Int) => f_M_movesOf_lp28 (p : Int) (f : Int) k n s (i : Int) h) 64 (fun s => k s 64 h)
      (fun i s' => s' = s + ((sm (fun x => ind (lgM h p f x 0) + 4 * ind (lgM h p f x 1)) i : Nat) : Int) ∧ s' ≤ s + 5 * (i : Int)) (by
        intro n s _
        show f_M_movesOf_lp28 _ _ _ (n + 1) s _ h = _
        rw [f_M_movesOf_lp28, if_pos (by omega)]; rfl) (by
        rintro n x s' hx ⟨h1, h2⟩
        show ∃ s'', _ ∧ f_M_movesOf_lp28 _ _ _ (n + 1) s' _ h = f_M_movesOf_lp28 _ _ _ n s'' ((x + 1 : Nat) : Int) h
        rw [f_M_movesOf_lp28, if_neg (by omega), il_ok h hp hf hB]
        simp only [obs]
        have hb : 0 ≤ ((sm (fun x => ind (lgM h p f x 0) + 4 * ind (lgM h p f x 1)) x : Nat) : Int) := by omega
        unfold f_M_movesOf_j51_28
        by_cases cf : kd (mb h p f) = 1 ∧ (x < 8 ∨ 55 < x)
        · have e1 : (if (if kd (mb h p f) = 1 then if (x : Int) < 8 then (1 : Int) else if (x : Int) ≤ 55 then 0 else 1 else 0) = 0 then (0 : Int) else 1) = ((1 : Nat) : Int) := by
            rw [if_pos cf.1]
            by_cases c8 : (x : Int) < 8
            · rw [if_pos c8]; rfl
            · rw [if_neg c8, if_neg (by omega)]; rfl
          rw [e1]
          obtain ⟨v, v1, v2, v3⟩ := lgl_ok h ((1 : Nat) : Int) hp hf hx hP'
          rw [v1]
          simp only [obs]
          rw [jadd_eq (a := (x : Int)) (by omega) (by omega), jadd_eq (a := s') (b := 4) (by omega) (by omega), if_neg (show ¬ ((1 : Nat) : Int) ≤ 0 by decide)]
          have z0 : ind (lgM h p f x 0) = 0 := ind_0 (lg_f1 hP' hf hx cf.1 cf.2)
          rcases v2 with c | c
          · rw [if_pos c]
            have z1 : ind (lgM h p f x 1) = 0 := ind_0 (fun q => by have := v3.mpr q; omega)
            exact ⟨_, ⟨by rw [sm_succ, z0, z1]; omega, by omega⟩, rfl⟩
          · rw [if_neg (by omega)]
            have z1 : ind (lgM h p f x 1) = 1 := ind_1 (v3.mp c)
            exact ⟨_, ⟨by rw [sm_succ, z0, z1]; omega, by omega⟩, rfl⟩
        · have e1 : (if (if kd (mb h p f) = 1 then if (x : Int) < 8 then (1 : Int) else if (x : Int) ≤ 55 then 0 else 1 else 0) = 0 then (0 : Int) else 1) = ((0 : Nat) : Int) := by
            by_cases ck : kd (mb h p f) = 1
            · rw [if_pos ck, if_neg (show ¬ (x : Int) < 8 from fun q => cf ⟨ck, by omega⟩)]
              by_cases c55 : (x : Int) ≤ 55
              · rw [if_pos c55]; rfl
              · exact absurd ⟨ck, by omega⟩ cf
            · rw [if_neg ck]; rfl
          rw [e1]
          obtain ⟨v, v1, v2, v3⟩ := lgl_ok h ((0 : Nat) : Int) hp hf hx hP'
          rw [v1]
          simp only [obs]
          rw [jadd_eq (a := (x : Int)) (by omega) (by omega), jadd_eq (a := s') (b := 1) (by omega) (by omega), if_pos (show ((0 : Nat) : Int) ≤ 0 by decide)]
          have z1 : ind (lgM h p f x 1) = 0 := ind_0 (lg_f0 hS cf)
          rcases v2 with c | c
          · rw [if_pos c]
            have z0 : ind (lgM h p f x 0) = 0 := ind_0 (fun q => by have := v3.mpr q; omega)
            exact ⟨_, ⟨by rw [sm_succ, z0, z1]; omega, by omega⟩, rfl⟩
          · rw [if_neg (by omega)]
            have z0 : ind (lgM h p f x 0) = 1 := ind_1 (v3.mp c)
            exact ⟨_, ⟨by rw [sm_succ, z0, z1]; omega, by omega⟩, rfl⟩) s 1000 ⟨by rw [show sm (fun x => ind (lgM h p f x 0) + 4 * ind (lgM h p f x 1)) 0 = 0 from rfl]; omega, by omega⟩ (by omega)
    rw [g1] at g3
    exact g3
  unfold f_M_movesOf
  obtain ⟨s', ⟨g1, g2⟩, g3⟩ := lp_all (fun n (i : Nat) (s : Int) => f_M_movesOf_lp4 (p : Int) (fun l20 l21 h22 => some (l20, h22)) n s (i : Int) h) 64 (fun s => some (s, h))
    (fun i s' => s' = ((sm (fun f => sm (fun x => ind (lgM h p f x 0) + 4 * ind (lgM h p f x 1)) 64) i : Nat) : Int) ∧ s' ≤ 320 * (i : Int)) (by
      intro n s _
      show f_M_movesOf_lp4 _ _ (n + 1) s _ h = _
      rw [f_M_movesOf_lp4, if_pos (by omega)]) (by
      rintro n f s hf ⟨h1, h2⟩
      show ∃ s'', _ ∧ f_M_movesOf_lp4 _ _ (n + 1) s _ h = f_M_movesOf_lp4 _ _ n s'' ((f + 1 : Nat) : Int) h
      rw [f_M_movesOf_lp4, if_neg (by omega), jgd_pos (by omega), Int.toNat_natCast]
      obtain ⟨v, v1, v2, v3⟩ := io_yn h hp hf hB hS
      rw [v1]
      simp only [obs]
      rw [jadd_eq (a := (f : Int)) (by omega) (by omega)]
      have hle := sm_le (f := fun x => ind (lgM h p f x 0) + 4 * ind (lgM h p f x 1)) (c := 5) (fun x => by
        have q1 := ind_le (lgM h p f x 0)
        have q2 := ind_le (lgM h p f x 1)
        show ind (lgM h p f x 0) + 4 * ind (lgM h p f x 1) ≤ 5
        omega) 64
      by_cases c : v = 0
      · rw [if_pos c]
        have z : sm (fun x => ind (lgM h p f x 0) + 4 * ind (lgM h p f x 1)) 64 = 0 := by
          rw [← sm_0 64]
          refine sm_congr 64 (fun x _ => ?_)
          have no : ∀ c, ¬ lgM h p f x c := fun c q => by have := v3.mpr q.1.1; omega
          show ind (lgM h p f x 0) + 4 * ind (lgM h p f x 1) = 0
          rw [ind_0 (no 0), ind_0 (no 1)]
        exact ⟨_, ⟨by rw [sm_succ (fun f => sm (fun x => ind (lgM h p f x 0) + 4 * ind (lgM h p f x 1)) 64) f, z]; omega, by omega⟩, rfl⟩
      · rw [if_neg c, inner f hf _ s (by omega) h2]
        exact ⟨_, ⟨by rw [sm_succ (fun f => sm (fun x => ind (lgM h p f x 0) + 4 * ind (lgM h p f x 1)) 64) f, h1]; omega, by omega⟩, rfl⟩) 0 1000 ⟨rfl, by omega⟩ (by omega)
  rw [g1] at g3
  have sw : nm (lgM h p) = sm (fun f => sm (fun x => ind (lgM h p f x 0) + 4 * ind (lgM h p f x 1)) 64) 64 := by
    unfold nm
    exact sm_swap (fun x f => ind (lgM h p f x 0) + 4 * ind (lgM h p f x 1)) 64 64
  rw [sw]
  exact g3
theorem cdM_ok (h : jH) {p : Nat} (hp : p < 304) (hP : PosM h p) (i : Nat) (hi : i < 2147483648) : ∃ v, f_M_codeOf h (p : Int) (i : Int) = some (v, h) ∧ cdS (lgM h p) i v := by
  have cle : ∀ n, cc (lgM h p) n ≤ n := by
    intro n
    have := sm_le (f := fun c => ind (lgc (lgM h p) c)) (c := 1) (fun c => ind_le _) n
    unfold cc; omega
  have in24 : ∀ (e x : Nat), e < 5 → x < 64 → ∀ (k : Int → Int → jH → Option (Int × jH)), cc (lgM h p) (4096 * e + 64 * x) ≤ i →
      (f_M_codeOf_lp24 (p : Int) (i : Int) (e : Int) (x : Int) k 1000 (cc (lgM h p) (4096 * e + 64 * x) : Int) 0 h = k (cc (lgM h p) (4096 * e + 64 * (x + 1)) : Int) 64 h ∧ cc (lgM h p) (4096 * e + 64 * (x + 1)) ≤ i) ∨ ∃ v, f_M_codeOf_lp24 (p : Int) (i : Int) (e : Int) (x : Int) k 1000 (cc (lgM h p) (4096 * e + 64 * x) : Int) 0 h = some (v, h) ∧ cdS (lgM h p) i v := by
    intro e x he hx k hle
    have run := lp_run (fun n (f : Nat) (s : Int) => f_M_codeOf_lp24 (p : Int) (i : Int) (e : Int) (x : Int) k n s (f : Int) h) 64 (fun s => k s 64 h) (fun o => ∃ v, o = some (v, h) ∧ cdS (lgM h p) i v)
      (fun f s => s = (cc (lgM h p) (4096 * e + 64 * x + f) : Int) ∧ cc (lgM h p) (4096 * e + 64 * x + f) ≤ i) (by
        intro n s _
        show f_M_codeOf_lp24 _ _ _ _ _ (n + 1) s _ h = _
        rw [f_M_codeOf_lp24, if_pos (by omega)]; rfl) (by
        rintro n f s hf ⟨h1, h2⟩
        show (∃ s', _ ∧ f_M_codeOf_lp24 _ _ _ _ _ (n + 1) s _ h = f_M_codeOf_lp24 _ _ _ _ _ n s' ((f + 1 : Nat) : Int) h) ∨ ∃ v, f_M_codeOf_lp24 _ _ _ _ _ (n + 1) s _ h = some (v, h) ∧ _
        rw [f_M_codeOf_lp24, if_neg (by omega)]
        obtain ⟨v, v1, v2, v3⟩ := lgl_ok h (e : Int) hp hf hx hP
        rw [v1]
        simp only [obs]
        have lg : lgc (lgM h p) (4096 * e + 64 * x + f) ↔ v = 1 := by
          unfold lgc
          rw [show (4096 * e + 64 * x + f) % 64 = f by omega, show (4096 * e + 64 * x + f) / 64 % 64 = x by omega, show (4096 * e + 64 * x + f) / 4096 = e by omega]
          exact v3.symm
        have nx : cc (lgM h p) (4096 * e + 64 * x + (f + 1)) = cc (lgM h p) (4096 * e + 64 * x + f) + ind (lgc (lgM h p) (4096 * e + 64 * x + f)) := rfl
        have cl := cle (4096 * e + 64 * x + f)
        rw [jadd_eq (a := (f : Int)) (by omega) (by omega), jadd_eq (a := s) (by omega) (by omega)]
        by_cases c : v = 0
        · left
          rw [if_pos c]
          rw [ind_0 (fun q => by have := lg.mp q; omega)] at nx
          exact ⟨_, ⟨by rw [nx]; exact h1, by omega⟩, rfl⟩
        · rw [if_neg c]
          have hv : v = 1 := by omega
          rw [ind_1 (lg.mpr hv)] at nx
          by_cases c2 : s = (i : Int)
          · right
            rw [if_pos c2, jmul_eq (by omega) (by omega), jmul_eq (by omega) (by omega), jadd_eq (a := 4096 * (e : Int)) (by omega) (by omega), jadd_eq (by omega) (by omega)]
            exact ⟨_, rfl, Or.inl ⟨4096 * e + 64 * x + f, by omega, lg.mpr hv, by omega, by omega⟩⟩
          · left
            rw [if_neg c2]
            exact ⟨_, ⟨by rw [nx]; omega, by omega⟩, rfl⟩) 64 0 _ 1000 (by omega) ⟨rfl, hle⟩ (by omega)
    rcases run with ⟨s', ⟨r1, r2⟩, r3⟩ | r
    · left
      rw [show 4096 * e + 64 * x + 64 = 4096 * e + 64 * (x + 1) by omega] at r1 r2
      exact ⟨by rw [r1] at r3; exact r3, r2⟩
    · exact Or.inr r
  have in14 : ∀ (e : Nat), e < 5 → ∀ (k : Int → Int → jH → Option (Int × jH)), cc (lgM h p) (4096 * e) ≤ i →
      (f_M_codeOf_lp14 (p : Int) (i : Int) (e : Int) k 1000 (cc (lgM h p) (4096 * e) : Int) 0 h = k (cc (lgM h p) (4096 * (e + 1)) : Int) 64 h ∧ cc (lgM h p) (4096 * (e + 1)) ≤ i) ∨ ∃ v, f_M_codeOf_lp14 (p : Int) (i : Int) (e : Int) k 1000 (cc (lgM h p) (4096 * e) : Int) 0 h = some (v, h) ∧ cdS (lgM h p) i v := by
    intro e he k hle
    have run := lp_run (fun n (x : Nat) (s : Int) => f_M_codeOf_lp14 (p : Int) (i : Int) (e : Int) k n s (x : Int) h) 64 (fun s => k s 64 h) (fun o => ∃ v, o = some (v, h) ∧ cdS (lgM h p) i v)
      (fun x s => s = (cc (lgM h p) (4096 * e + 64 * x) : Int) ∧ cc (lgM h p) (4096 * e + 64 * x) ≤ i) (by
        intro n s _
        show f_M_codeOf_lp14 _ _ _ _ (n + 1) s _ h = _
        rw [f_M_codeOf_lp14, if_pos (by omega)]; rfl) (by
        rintro n x s hx ⟨h1, h2⟩
        show (∃ s', _ ∧ f_M_codeOf_lp14 _ _ _ _ (n + 1) s _ h = f_M_codeOf_lp14 _ _ _ _ n s' ((x + 1 : Nat) : Int) h) ∨ ∃ v, f_M_codeOf_lp14 _ _ _ _ (n + 1) s _ h = some (v, h) ∧ _
        rw [f_M_codeOf_lp14, if_neg (by omega), jadd_eq (a := (x : Int)) (by omega) (by omega), h1]
        rcases in24 e x he hx (fun l20 l21 h22 => f_M_codeOf_lp14 (p : Int) (i : Int) (e : Int) k n l20 ((x : Int) + 1) h22) h2 with ⟨r1, r2⟩ | r
        · left; exact ⟨_, ⟨rfl, r2⟩, r1⟩
        · right; exact r) 64 0 _ 1000 (by omega) ⟨rfl, hle⟩ (by omega)
    rcases run with ⟨s', ⟨r1, r2⟩, r3⟩ | r
    · left
      rw [show 4096 * e + 64 * 64 = 4096 * (e + 1) by omega] at r1 r2
      exact ⟨by rw [r1] at r3; exact r3, r2⟩
    · exact Or.inr r
  unfold f_M_codeOf
  refine lp_ex (fun n (e : Nat) (s : Int) => f_M_codeOf_lp5 (p : Int) (i : Int) (fun l26 l27 h28 => some ((-1), h28)) n s (e : Int) h) 5 (fun _ => some ((-1), h)) (fun o => ∃ v, o = some (v, h) ∧ cdS (lgM h p) i v) (fun e s => s = (cc (lgM h p) (4096 * e) : Int) ∧ cc (lgM h p) (4096 * e) ≤ i) ?_ ?_ ?_ 0 1000 ?_ (by omega)
  · intro n s _
    show f_M_codeOf_lp5 _ _ _ (n + 1) s _ h = _
    rw [f_M_codeOf_lp5, if_pos (by omega)]
  · rintro n e s he ⟨h1, h2⟩
    show (∃ s', _ ∧ f_M_codeOf_lp5 _ _ _ (n + 1) s _ h = f_M_codeOf_lp5 _ _ _ n s' ((e + 1 : Nat) : Int) h) ∨ ∃ v, f_M_codeOf_lp5 _ _ _ (n + 1) s _ h = some (v, h) ∧ _
    rw [f_M_codeOf_lp5, if_neg (by omega), jadd_eq (a := (e : Int)) (by omega) (by omega), h1]
    rcases in14 e he (fun l23 l24 h25 => f_M_codeOf_lp5 (p : Int) (i : Int) (fun l26 l27 h28 => some ((-1), h28)) n l23 ((e : Int) + 1) h25) h2 with ⟨r1, r2⟩ | r
    · left; exact ⟨_, ⟨rfl, r2⟩, r1⟩
    · right; exact r
  · rintro s ⟨h1, h2⟩
    exact ⟨-1, rfl, Or.inr ⟨h2, rfl⟩⟩
  · exact ⟨rfl, Nat.zero_le _⟩
