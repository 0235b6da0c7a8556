/-! the reference: what lies behind all moves -/
noncomputable def VM (b : Nat → Int) (side rights file : Int) (md : Nat) (f x c : Nat) : Nat := if md = 0 then bn b side rights file f x c else ind (nxC b side file f x c ∧ bn b side rights file f x c = 0)
theorem VM_le (b : Nat → Int) (side rights file : Int) (md f x c : Nat) : VM b side rights file md f x c ≤ 20480 := by
  unfold VM
  by_cases e : md = 0
  · rw [if_pos e]; exact nm_le _
  · rw [if_neg e]; have := ind_le (nxC b side file f x c ∧ bn b side rights file f x c = 0); omega
noncomputable def WM (h : jH) (n md f x c : Nat) : Nat := ind (lgM h n f x c) * VM (mb h n) (h 26 n) (h 27 n) (h 28 n) md f x c
theorem WM_le (h : jH) (n md f x c : Nat) : WM h n md f x c ≤ 20480 := by
  unfold WM
  have h1 := ind_le (lgM h n f x c)
  have h2 := VM_le (mb h n) (h 26 n) (h 27 n) (h 28 n) md f x c
  by_cases e : ind (lgM h n f x c) = 0
  · rw [e]; omega
  · rw [show ind (lgM h n f x c) = 1 by omega]; omega
theorem FrR_0 (h : jH) (q : Nat) : FrR h h q := ⟨fun _ _ _ _ _ _ => rfl, fun _ _ => ⟨fun _ _ => rfl, rfl, rfl, rfl, rfl⟩⟩
theorem bh_one (h g : jH) {n f x c md : Nat} (hn : n ≤ 300) (en : h 24 7 = (n : Int)) (hf : f < 64) (hx : x < 64) (hc : c ≤ 4) (hmd : md < 2) (hG : G5 (mb h n) (h 26 n) (h 27 n) (h 28 n)) (hct : 0 ≤ h 29 n ∧ h 29 n < 100000) (hF : FrR h g (n + 1)) (rc : Int → Int → jH → Option (Int × jH)) (k : Int → Int → jH → Option (Int × jH)) (g0 : jH) (xl l lim : Int) (hl0 : 0 ≤ l) (hl1 : l ≤ 500000000) (hlim : (c : Int) < lim) :
    ∃ g', f_M_behindAll_j78_66 rc k g0 g (md : Int) (f : Int) (x : Int) xl l (c : Int) lim (c : Int) = rc (l + (WM h n md f x c : Int)) ((c + 1 : Nat) : Int) g' ∧ FrR h g' (n + 1) := by
  have hr := hF.2 n (by omega)
  have hE : EqB (mb g n) (mb h n) := hr.1
  have e24 : g 24 = h 24 := hF.1 24 (by decide) (by decide) (by decide) (by decide) (by decide)
  have hP : PosM g n := by unfold PosM; rw [hr.2.1, hr.2.2.1, hr.2.2.2.1]; exact PosR_c (EqB_sym hE) hG.1
  obtain ⟨z, z1, z2, z3⟩ := lgl_ok g (c : Int) (show n < 304 by omega) hf hx hP
  have z3' : z = 1 ↔ lgM h n f x c := by
    rw [z3, hr.2.1, hr.2.2.1, hr.2.2.2.1]
    exact lgl_c hE (PosR_c (EqB_sym hE) hG.1) hf hx
  unfold f_M_behindAll_j78_66
  rw [if_neg (by omega), e24, en, z1, obs]
  show ∃ g', (if z = 0 then _ else _) = _ ∧ _
  rw [jadd_eq (a := (c : Int)) (by omega) (by omega)]
  by_cases d : z = 0
  · rw [if_pos d]
    refine ⟨g, ?_, hF⟩
    have : WM h n md f x c = 0 := by
      unfold WM; rw [ind_0 (fun q => by have := z3'.mpr q; omega), Nat.zero_mul]
    rw [this]
    show rc l ((c : Int) + 1) g = rc (l + ((0 : Nat) : Int)) ((c : Int) + 1) g
    rw [show l + ((0 : Nat) : Int) = l by omega]
  · rw [if_neg d]
    have hl : lgM h n f x c := z3'.mp (by omega)
    have hlg : lgM g n f x c := by
      unfold lgM; rw [hr.2.1, hr.2.2.1, hr.2.2.2.1]; exact lgl_c1 (EqB_sym hE) hG.1 hf hx hl
    obtain ⟨g', v, p1, p2, p3, p4, p5, p6, p7, p8⟩ := go_ok g (show n + 1 < 304 by omega) hf hx hc hP hlg (by rw [hr.2.2.2.2]; exact hct)
    have hF' : FrR h g' (n + 1) := FrR_trans hF p2
    have e24' : g' 24 = h 24 := hF'.1 24 (by decide) (by decide) (by decide) (by decide) (by decide)
    have e24g : (z, g).2 24 7 = (n : Int) := by show g 24 7 = _; rw [e24, en]
    rw [e24g]
    show ∃ g', (f_M_go g (n : Int) (f : Int) (x : Int) (c : Int)).bind _ = _ ∧ _
    rw [p1, obs, e24', en, jadd_eq (a := (n : Int)) (by omega) (by omega)]
    rw [hr.2.1] at p4 p5
    rw [hr.2.1, hr.2.2.2.1] at p3
    rw [hr.2.2.1] at p6
    have p3' := vicR_c hE hf hx p3
    have ev := vc_of p3'
    have hN : EqB (mb g' (n + 1)) (nxB (mb h n) (h 26 n) (h 28 n) f x c) := by
      unfold nxB; rw [← ev]; exact EqB_tr p4 (nbv_c hE hf)
    rw [nf_c hE hf] at p7
    have hG1 := nxG hG hf hx hc hl
    have hP1 : PosM g' (n + 1) := by unfold PosM; rw [p5, p6, p7]; exact PosR_c (EqB_sym hN) hG1.1
    have hS1 : 1 - h 26 n = 0 ∨ 1 - h 26 n = 1 := hG1.1.2.1.1
    have hS : h 26 n = 0 ∨ h 26 n = 1 := by omega
    have mo := mo_ok g' (show n + 1 < 304 by omega) hP1
    have enm : nm (lgM g' (n + 1)) = bn (mb h n) (h 26 n) (h 27 n) (h 28 n) f x c := by
      unfold bn
      refine nm_c (fun f' x' c' h1 h2 => ?_)
      unfold lgM nxL
      rw [← p5, ← p6, ← p7]
      exact lgl_c hN hP1 h1 h2
    rw [enm] at mo
    have hb : bn (mb h n) (h 26 n) (h 27 n) (h 28 n) f x c ≤ 20480 := nm_le _
    obtain ⟨k1, hk1⟩ := kgs_uk hG1.1.2.2.1 hS1
    have hk2 := uk_c1 (EqB_sym hN) hk1
    have hBn : BR (mb g' (n + 1)) := hP1.1
    obtain ⟨w, w1, w2, w3⟩ := ck_ok g' (show n + 1 < 304 by omega) hBn (by rw [p5]; exact hS1) (by rw [p5]; exact hk2)
    rw [p5] at w3
    have w3' : w = 1 ↔ nxC (mb h n) (h 26 n) (h 28 n) f x c := by
      rw [w3, show (1 : Int) - (1 - h 26 n) = h 26 n by omega, atd_c hN hBn hk1.1 hS]
      constructor
      · intro q; exact ⟨k1, hk1, q⟩
      · rintro ⟨k2, q1, q2⟩
        rw [uk_1 hk1 q1]; exact q2
    rw [show ((n : Int) + 1) = ((n + 1 : Nat) : Int) from rfl]
    have hW : WM h n md f x c = VM (mb h n) (h 26 n) (h 27 n) (h 28 n) md f x c := by
      unfold WM; rw [ind_1 hl, Nat.one_mul]
    rw [hW]
    unfold VM
    by_cases em : md = 0
    · rw [if_pos (show (md : Int) = 0 by omega), if_pos em, mo, obs]
      refine ⟨g', ?_, hF'⟩
      show rc (jadd l _) _ g' = _
      rw [jadd_eq (by omega) (by omega)]
      rfl
    · rw [if_neg (show ¬ (md : Int) = 0 by omega), if_neg em, w1, obs]
      by_cases dw : w = 0
      · rw [if_pos dw, ind_0 (fun q => by have := w3'.mpr q.1; omega)]
        refine ⟨g', ?_, hF'⟩
        rw [show l + ((0 : Nat) : Int) = l by omega]
        rfl
      · rw [if_neg dw, mo, obs]
        refine ⟨g', ?_, hF'⟩
        show rc (if ((bn (mb h n) (h 26 n) (h 27 n) (h 28 n) f x c : Nat) : Int) = 0 then jadd l 1 else l) _ g' = _
        by_cases d' : bn (mb h n) (h 26 n) (h 27 n) (h 28 n) f x c = 0
        · rw [if_pos (by omega), jadd_eq (by omega) (by omega), ind_1 ⟨w3'.mp (by omega), d'⟩]; rfl
        · rw [if_neg (by omega), ind_0 (fun q => d' q.2), show l + ((0 : Nat) : Int) = l by omega]; rfl
theorem bh_x (h g : jH) {n f x md : Nat} (hn : n ≤ 300) (en : h 24 7 = (n : Int)) (hf : f < 64) (hx : x < 64) (hmd : md < 2) (hG : G5 (mb h n) (h 26 n) (h 27 n) (h 28 n)) (hct : 0 ≤ h 29 n ∧ h 29 n < 100000) (hF : FrR h g (n + 1)) (K : Int → Int → jH → Option (Int × jH)) (s : Int) (s0 : 0 ≤ s) (s1 : s ≤ 450000000) (la : Int) (hla : la = 0 ∨ la = 1) (hla' : la = 1 ↔ kd (mb h n f) = 1 ∧ (x < 8 ∨ 55 < x)) :
    ∃ g' l, f_M_behindAll_lp66 (md : Int) (f : Int) (x : Int) la K 1000 s (if la = 0 then 0 else 1) g = K (s + ((sm (fun c => WM h n md f x c) 5 : Nat) : Int)) l g' ∧ FrR h g' (n + 1) := by
  have hP := hG.1
  have hS := hP.2.1.1
  have bd : ∀ c, sm (fun c => WM h n md f x c) c ≤ 20480 * c := fun c => sm_bd _ 20480 (fun i => WM_le h n md f x i) c
  have main : ∀ (N st : Nat), N ≤ 5 → st ≤ N → (if la = 0 then (1 : Int) else 5) = (N : Int) → sm (fun c => WM h n md f x c) st = 0 → ∃ g', f_M_behindAll_lp66 (md : Int) (f : Int) (x : Int) la K 1000 s (st : Int) g = K (s + ((sm (fun c => WM h n md f x c) N : Nat) : Int)) (N : Int) g' ∧ FrR h g' (n + 1) := by
    intro N st hN hst hlim hz
    have run := lp_run (fun q (c : Nat) (t : Int × jH) => f_M_behindAll_lp66 (md : Int) (f : Int) (x : Int) la K q t.1 (c : Int) t.2) N (fun t => K t.1 (N : Int) t.2) (fun _ => False)
      (fun c t => t.1 = s + ((sm (fun c => WM h n md f x c) c : Nat) : Int) ∧ FrR h t.2 (n + 1)) (by
        intro q t ht
        show f_M_behindAll_lp66 _ _ _ _ _ (q + 1) t.1 _ t.2 = _
        rw [f_M_behindAll_lp66, hlim]
        unfold f_M_behindAll_j78_66
        rw [if_pos (by omega)]) (by
        intro q c t hc ht
        left
        show ∃ t' : Int × jH, _ ∧ f_M_behindAll_lp66 _ _ _ _ _ (q + 1) t.1 _ t.2 = f_M_behindAll_lp66 _ _ _ _ _ q t'.1 ((c + 1 : Nat) : Int) t'.2
        have b1 := bd c
        obtain ⟨g', r1, r2⟩ := bh_one h t.2 hn en hf hx (show c ≤ 4 by omega) hmd hG hct ht.2 (f_M_behindAll_lp66 (md : Int) (f : Int) (x : Int) la K q) K t.2 la t.1 (N : Int) (by omega) (by omega) (by omega)
        rw [f_M_behindAll_lp66, hlim, r1]
        refine ⟨(t.1 + (WM h n md f x c : Int), g'), ⟨?_, r2⟩, rfl⟩
        show t.1 + (WM h n md f x c : Int) = _
        rw [sm_succ, ht.1]; omega) (N - st) st (s, g) 1000 (by omega) ⟨by show s = _; rw [hz]; omega, hF⟩ (by omega)
    rcases run with ⟨t, ⟨t1, t2⟩, t3⟩ | q
    · refine ⟨t.2, ?_, t2⟩
      rw [← t1]; exact t3
    · exact q.elim
  rcases hla with e | e
  · have nl : ¬ (kd (mb h n f) = 1 ∧ (x < 8 ∨ 55 < x)) := fun q => by have := hla'.mpr q; omega
    obtain ⟨g', r1, r2⟩ := main 1 0 (by omega) (by omega) (by rw [if_pos e]; rfl) rfl
    refine ⟨g', ((1 : Nat) : Int), ?_, r2⟩
    rw [if_pos e]
    have z : ∀ c, 1 ≤ c → WM h n md f x c = 0 := by
      intro c hc
      unfold WM
      have e0 : ind (lgM h n f x c) = 0 := ind_0 (fun q => lg_f0 hS nl ((lg_bec (mb h n) (h 26 n) (h 27 n) (h 28 n) f x c hf hx hc).mp q))
      rw [e0, Nat.zero_mul]
    have e5 : sm (fun c => WM h n md f x c) 5 = sm (fun c => WM h n md f x c) 1 := by
      rw [sm_succ, sm_succ, sm_succ, sm_succ, z 1 (by omega), z 2 (by omega), z 3 (by omega), z 4 (by omega)]; rfl
    rw [e5]
    exact r1
  · have z0 : WM h n md f x 0 = 0 := by
      unfold WM
      have := hla'.mp e
      have e0 : ind (lgM h n f x 0) = 0 := ind_0 (fun q => lg_f1 hP hf hx this.1 this.2 q)
      rw [e0, Nat.zero_mul]
    obtain ⟨g', r1, r2⟩ := main 5 1 (by omega) (by omega) (by rw [if_neg (by omega)]; rfl) (by rw [sm_succ, z0]; rfl)
    refine ⟨g', ((5 : Nat) : Int), ?_, r2⟩
    rw [if_neg (by omega)]
    exact r1
theorem il_yn (h : jH) {p f x : Nat} (hp : p < 304) (hf : f < 64) (hB : BR (mb h p)) : YN (f_M_isLast h (p : Int) (f : Int) (x : Int)) (kd (mb h p f) = 1 ∧ (x < 8 ∨ 55 < x)) := by
  rw [il_ok h hp hf hB]
  by_cases c : kd (mb h p f) = 1
  · rw [if_pos c]
    by_cases d : (x : Int) < 8
    · rw [if_pos d]; exact yn1 ⟨c, by omega⟩
    · rw [if_neg d]
      by_cases e : (x : Int) ≤ 55
      · rw [if_pos e]; exact yn0 (fun q => by omega)
      · rw [if_neg e]; exact yn1 ⟨c, by omega⟩
  · rw [if_neg c]; exact yn0 (fun q => c q.1)
theorem bh_f (h g : jH) {n f md : Nat} (hn : n ≤ 300) (en : h 24 7 = (n : Int)) (hf : f < 64) (hmd : md < 2) (hG : G5 (mb h n) (h 26 n) (h 27 n) (h 28 n)) (hct : 0 ≤ h 29 n ∧ h 29 n < 100000) (hF : FrR h g (n + 1)) (G : Int → jH → Option (Int × jH)) (K : Int → Int → jH → Option (Int × jH)) (hK : ∀ a b c, K a b c = G a c) (s : Int) (s0 : 0 ≤ s) (s1 : s ≤ 6553600 * (f : Int)) :
    ∃ g', f_M_behindAll_lp13 (md : Int) (f : Int) K 1000 s 0 g = G (s + ((sm (fun x => sm (fun c => WM h n md f x c) 5) 64 : Nat) : Int)) g' ∧ FrR h g' (n + 1) := by
  have hP := hG.1
  have hS := hP.2.1.1
  have at' : ∀ t : jH, FrR h t (n + 1) → t 24 7 = (n : Int) ∧ t 26 n = h 26 n ∧ BR (mb t n) ∧ mb t n f = mb h n f := by
    intro t ht
    have hr := ht.2 n (by omega)
    exact ⟨by rw [ht.1 24 (by decide) (by decide) (by decide) (by decide) (by decide)]; exact en, hr.2.1, BR_c (EqB_sym hr.1) hP.1, hr.1 f hf⟩
  by_cases own : sd (mb h n f) = h 26 n
  · have bd5 : ∀ x, sm (fun c => WM h n md f x c) 5 ≤ 102400 := fun x => by have := sm_bd (fun c => WM h n md f x c) 20480 (fun i => WM_le h n md f x i) 5; omega
    have bd : ∀ x, sm (fun x => sm (fun c => WM h n md f x c) 5) x ≤ 102400 * x := fun x => sm_bd _ 102400 (fun i => bd5 i) x
    obtain ⟨t, ⟨t1, t2⟩, t3⟩ := lp_all (fun q (x : Nat) (t : Int × jH) => f_M_behindAll_lp13 (md : Int) (f : Int) K q t.1 (x : Int) t.2) 64 (fun t => G t.1 t.2)
      (fun x t => t.1 = s + ((sm (fun x => sm (fun c => WM h n md f x c) 5) x : Nat) : Int) ∧ FrR h t.2 (n + 1)) (by
        intro q t ht
        show f_M_behindAll_lp13 _ _ _ (q + 1) t.1 _ t.2 = _
        rw [f_M_behindAll_lp13, if_pos (by omega), hK]) (by
        intro q x t hx ht
        show ∃ t' : Int × jH, _ ∧ f_M_behindAll_lp13 _ _ _ (q + 1) t.1 _ t.2 = f_M_behindAll_lp13 _ _ _ q t'.1 ((x + 1 : Nat) : Int) t'.2
        obtain ⟨a1, a2, a3, a4⟩ := at' t.2 ht.2
        have b1 := bd x
        rw [f_M_behindAll_lp13, if_neg (by omega), a1, jgd_pos (by omega), Int.toNat_natCast, a2, io_ok t.2 (by omega) hf a3 hS, a4, if_pos own, obs, if_neg (show ¬ (1 : Int) = 0 by decide)]
        obtain ⟨la, l1, l2, l3⟩ := il_yn t.2 (x := x) (show n < 304 by omega) hf a3
        rw [a4] at l3
        rw [l1, obs]
        unfold f_M_behindAll_j64_13
        obtain ⟨g', l, r1, r2⟩ := bh_x h t.2 hn en hf hx hmd hG hct ht.2 (fun l34 l35 h36 => f_M_behindAll_lp13 (md : Int) (f : Int) K q l34 (jadd (x : Int) 1) h36) t.1 (by omega) (by omega) la l2 l3
        rw [r1, jadd_eq (by omega) (by omega)]
        refine ⟨(t.1 + ((sm (fun c => WM h n md f x c) 5 : Nat) : Int), g'), ⟨?_, r2⟩, rfl⟩
        have e9 : sm (fun x => sm (fun c => WM h n md f x c) 5) (x + 1) = sm (fun x => sm (fun c => WM h n md f x c) 5) x + sm (fun c => WM h n md f x c) 5 := rfl
        show t.1 + _ = _
        rw [e9, ht.1]; omega) (s, g) 1000 ⟨by show s = s + ((0 : Nat) : Int); omega, hF⟩ (by omega)
    refine ⟨t.2, ?_, t2⟩
    rw [← t1]; exact t3
  · obtain ⟨a1, a2, a3, a4⟩ := at' g hF
    refine ⟨g, ?_, hF⟩
    have z : sm (fun x => sm (fun c => WM h n md f x c) 5) 64 = 0 := by
      have : ∀ x c, WM h n md f x c = 0 := by
        intro x c
        unfold WM
        rw [ind_0 (fun q => own q.1.1), Nat.zero_mul]
      rw [show (fun x => sm (fun c => WM h n md f x c) 5) = fun _ => 0 from funext (fun x => by
        rw [show (fun c => WM h n md f x c) = fun _ => 0 from funext (fun c => this x c)]; exact sm_0 5)]
      exact sm_0 64
    rw [z, show (1000 : Nat) = 999 + 1 from rfl, f_M_behindAll_lp13, if_neg (by omega), a1, jgd_pos (by omega), Int.toNat_natCast, a2, io_ok g (by omega) hf a3 hS, a4, if_neg own, obs, if_pos rfl, hK, show s + ((0 : Nat) : Int) = s by omega]
theorem bh_ok (h : jH) {n md : Nat} (hn : n ≤ 300) (en : h 24 7 = (n : Int)) (hmd : md < 2) (hG : G5 (mb h n) (h 26 n) (h 27 n) (h 28 n)) (hct : 0 ≤ h 29 n ∧ h 29 n < 100000) :
    ∃ g', f_M_behindAll h (md : Int) = some (((sm (fun f => sm (fun x => sm (fun c => WM h n md f x c) 5) 64) 64 : Nat) : Int), g') ∧ FrR h g' (n + 1) := by
  have bd5 : ∀ f x, sm (fun c => WM h n md f x c) 5 ≤ 102400 := fun f x => by have := sm_bd (fun c => WM h n md f x c) 20480 (fun i => WM_le h n md f x i) 5; omega
  have bd6 : ∀ f, sm (fun x => sm (fun c => WM h n md f x c) 5) 64 ≤ 6553600 := fun f => by have := sm_bd (fun x => sm (fun c => WM h n md f x c) 5) 102400 (fun i => bd5 f i) 64; omega
  unfold f_M_behindAll
  obtain ⟨t, ⟨t1, t2⟩, t3⟩ := lp_all (fun q (f : Nat) (t : Int × jH) => f_M_behindAll_lp4 (md : Int) (fun l40 l41 h42 => some (l40, h42)) q t.1 (f : Int) t.2) 64 (fun t => some (t.1, t.2))
    (fun f t => t.1 = ((sm (fun f => sm (fun x => sm (fun c => WM h n md f x c) 5) 64) f : Nat) : Int) ∧ FrR h t.2 (n + 1)) (by
      intro q t ht
      show f_M_behindAll_lp4 _ _ (q + 1) t.1 _ t.2 = _
      rw [f_M_behindAll_lp4, if_pos (by omega)]) (by
      intro q f t hf ht
      show ∃ t' : Int × jH, _ ∧ f_M_behindAll_lp4 _ _ (q + 1) t.1 _ t.2 = f_M_behindAll_lp4 _ _ q t'.1 ((f + 1 : Nat) : Int) t'.2
      have b1 := sm_bd (fun f => sm (fun x => sm (fun c => WM h n md f x c) 5) 64) 6553600 (fun i => bd6 i) f
      rw [f_M_behindAll_lp4, if_neg (by omega)]
      obtain ⟨g', r1, r2⟩ := bh_f h t.2 hn en hf hmd hG hct ht.2 (fun l37 h39 => f_M_behindAll_lp4 (md : Int) (fun l40 l41 h42 => some (l40, h42)) q l37 (jadd (f : Int) 1) h39) (fun l37 l38 h39 => f_M_behindAll_lp4 (md : Int) (fun l40 l41 h42 => some (l40, h42)) q l37 (jadd (f : Int) 1) h39) (fun _ _ _ => rfl) t.1 (by omega) (by omega)
      rw [r1, jadd_eq (by omega) (by omega)]
      refine ⟨(t.1 + ((sm (fun x => sm (fun c => WM h n md f x c) 5) 64 : Nat) : Int), g'), ⟨?_, r2⟩, rfl⟩
      have e9 : sm (fun f => sm (fun x => sm (fun c => WM h n md f x c) 5) 64) (f + 1) = sm (fun f => sm (fun x => sm (fun c => WM h n md f x c) 5) 64) f + sm (fun x => sm (fun c => WM h n md f x c) 5) 64 := rfl
      show t.1 + _ = _
      rw [e9, ht.1]; omega) (0, h) 1000 ⟨rfl, FrR_0 h _⟩ (by omega)
  refine ⟨t.2, ?_, t2⟩
  rw [← t1]; exact t3
theorem sm_code (G : Nat → Nat) : sm G 20480 = sm (fun f => sm (fun x => sm (fun c => G (4096 * c + 64 * x + f)) 5) 64) 64 := by
  have h1 : sm G (64 * 320) = sm (fun q => sm (fun r => G (64 * q + r)) 64) 320 := sm_64 G 320
  have h2 : sm (fun q => sm (fun r => G (64 * q + r)) 64) (64 * 5) = sm (fun e => sm (fun x => sm (fun r => G (64 * (64 * e + x) + r)) 64) 64) 5 := sm_64 (fun q => sm (fun r => G (64 * q + r)) 64) 5
  have h3 : sm G 20480 = sm (fun e => sm (fun x => sm (fun r => G (64 * (64 * e + x) + r)) 64) 64) 5 := h1.trans h2
  rw [h3]
  have h4 : (fun e => sm (fun x => sm (fun r => G (64 * (64 * e + x) + r)) 64) 64) = fun e => sm (fun r => sm (fun x => G (4096 * e + 64 * x + r)) 64) 64 := by
    funext e
    rw [sm_swap]
    refine sm_congr 64 (fun r _ => sm_congr 64 (fun x _ => ?_))
    rw [show 64 * (64 * e + x) + r = 4096 * e + 64 * x + r by omega]
  rw [h4, sm_swap]
  refine sm_congr 64 (fun f _ => ?_)
  rw [sm_swap]
theorem nxB_c {b b' : Nat → Int} (h : EqB b b') {side file : Int} {f x c : Nat} (hf : f < 64) (hx : x < 64) : EqB (nxB b side file f x c) (nxB b' side file f x c) := by
  unfold nxB
  rw [← vc_of (vicR_c h hf hx (vc_R b side file f x))]
  exact nbv_c h hf
theorem bn_c {b b' : Nat → Int} (h : EqB b b') {side rights file : Int} {f x c : Nat} (hG : G5 b side rights file) (hf : f < 64) (hx : x < 64) (hc : c ≤ 4) (hl : lgl b side rights file f x (c : Int)) : bn b side rights file f x c = bn b' side rights file f x c := by
  unfold bn
  refine nm_c (fun f' x' c' h1 h2 => ?_)
  unfold nxL
  rw [← nf_c h hf]
  exact lgl_c (nxB_c h hf hx) (nxG hG hf hx hc hl).1 h1 h2
theorem nxC_c1 {b b' : Nat → Int} (h : EqB b b') {side rights file : Int} {f x c : Nat} (hG : G5 b side rights file) (hf : f < 64) (hx : x < 64) (hc : c ≤ 4) (hl : lgl b side rights file f x (c : Int)) (q : nxC b side file f x c) : nxC b' side file f x c := by
  obtain ⟨k, k1, k2⟩ := q
  exact ⟨k, uk_c1 (nxB_c h hf hx) k1, (atd_c (nxB_c h hf hx) (nxG hG hf hx hc hl).1.1 k1.1 hG.1.2.1.1).mp k2⟩
theorem VM_c {b b' : Nat → Int} (h : EqB b b') {side rights file : Int} {md f x c : Nat} (hG : G5 b side rights file) (hf : f < 64) (hx : x < 64) (hc : c ≤ 4) (hl : lgl b side rights file f x (c : Int)) : VM b side rights file md f x c = VM b' side rights file md f x c := by
  unfold VM
  have e1 := bn_c h hG hf hx hc hl
  rw [e1]
  by_cases em : md = 0
  · rw [if_pos em, if_pos em]
  · rw [if_neg em, if_neg em]
    refine ind_c ⟨fun q => ⟨nxC_c1 h hG hf hx hc hl q.1, q.2⟩, fun q => ⟨nxC_c1 (EqB_sym h) (G5_c h hG) hf hx hc (lgl_c1 h hG.1 hf hx hl) q.1, q.2⟩⟩
/-- class and reference add up to the same -/
theorem sum_eq (h : jH) {n md : Nat} (hE : EqB (h 3) (mb h n)) (e1 : h 2 1 = h 26 n) (e2 : h 2 2 = h 27 n) (e3 : h 2 3 = h 28 n) (hG : G5 (mb h n) (h 26 n) (h 27 n) (h 28 n)) (F : Nat → Nat) (hF : ∀ c, F c = VM (h 3) (h 2 1) (h 2 2) (h 2 3) md (c % 64) (c / 64 % 64) (c / 4096)) :
    TS (lgX h) F 20480 = sm (fun f => sm (fun x => sm (fun c => WM h n md f x c) 5) 64) 64 := by
  unfold TS
  rw [sm_code]
  refine sm_congr 64 (fun f hf => sm_congr 64 (fun x hx => sm_congr 5 (fun c hc => ?_)))
  have a1 : (4096 * c + 64 * x + f) % 64 = f := by omega
  have a2 : (4096 * c + 64 * x + f) / 64 % 64 = x := by omega
  have a3 : (4096 * c + 64 * x + f) / 4096 = c := by omega
  show ind (lgc (lgX h) (4096 * c + 64 * x + f)) * F (4096 * c + 64 * x + f) = _
  rw [hF]
  unfold lgc WM
  rw [a1, a2, a3]
  have hl : lgX h f x c ↔ lgM h n f x c := by
    unfold lgX lgM
    rw [e1, e2, e3]
    exact lgl_c hE (PosR_c (EqB_sym hE) hG.1) hf hx
  rw [ind_c hl]
  by_cases c0 : lgM h n f x c
  · rw [ind_1 c0, e1, e2, e3, VM_c (EqB_sym hE) hG hf hx (by omega) c0]
  · rw [ind_0 c0, Nat.zero_mul, Nat.zero_mul]
