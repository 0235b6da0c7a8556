/-! the class: lines, mates, its own check -/
theorem nm_nx {g1 : jH} {b : Nat → Int} {side rights file : Int} {f x c : Nat} (hE : EqB (g1 3) (nxB b side file f x c)) (e1 : g1 2 1 = 1 - side) (e2 : g1 2 2 = nr rights f x) (e3 : g1 2 3 = nf b f x) (hG : G5 (nxB b side file f x c) (1 - side) (nr rights f x) (nf b f x)) : nm (lgX g1) = bn b side rights file f x c ∧ PosX g1 := by
  have hP : PosX g1 := by unfold PosX; rw [e1, e2, e3]; exact PosR_c (EqB_sym hE) hG.1
  refine ⟨?_, hP⟩
  unfold bn
  refine nm_c (fun f' x' c' h1 h2 => ?_)
  unfold lgX nxL
  rw [← e1, ← e2, ← e3]
  exact lgl_c hE hP h1 h2
theorem ck_nx {g1 : jH} {b : Nat → Int} {side rights file : Int} {f x c : Nat} (hE : EqB (g1 3) (nxB b side file f x c)) (e1 : g1 2 1 = 1 - side) (hG : G5 (nxB b side file f x c) (1 - side) (nr rights f x) (nf b f x)) : YN (f_Bd_isKingAttacked 2 g1 (g1 2 1)) (nxC b side file f x c) ∧ f_Bd_isKingAttacked 2 g1 side = some 0 := by
  have hS1 : 1 - side = 0 ∨ 1 - side = 1 := hG.1.2.1.1
  have hS : side = 0 ∨ side = 1 := by omega
  have hB1 : BR (g1 3) := BR_c (EqB_sym hE) hG.1.1
  obtain ⟨k, hk⟩ := kgs_uk hG.1.2.2.1 hS1
  obtain ⟨k', hk'⟩ := kgs_uk hG.1.2.2.1 hS
  have hk1 := uk_c1 (EqB_sym hE) hk
  have hk1' := uk_c1 (EqB_sym hE) hk'
  constructor
  · rw [e1]
    obtain ⟨z, z1, z2, z3⟩ := ikX g1 2 hB1 hS1 hk1
    refine ⟨z, z1, z2, z3.trans ?_⟩
    rw [show (1 : Int) - (1 - side) = side by omega, atd_c hE hB1 hk.1 hS]
    constructor
    · intro q; exact ⟨k, hk, q⟩
    · rintro ⟨k2, q1, q2⟩
      rw [uk_1 hk q1]; exact q2
  · obtain ⟨z, z1, z2, z3⟩ := ikX g1 2 hB1 hS hk1'
    have : ¬ z = 1 := by
      intro q
      have q2 := z3.mp q
      rw [atd_c hE hB1 hk'.1 hS1] at q2
      exact hG.2 k' (by rw [show (1 : Int) - (1 - side) = side by omega]; exact hk') q2
    rw [z1, show z = 0 by omega]
theorem Tb_wk {h g0 g : jH} {n : Nat} {L : Nat → Nat → Nat → Prop} (hT : Tb 11 h g0 L) (hW : WK g0 g n) : Tb 11 g g L := by
  refine ⟨fun _ _ _ => rfl, fun c hc => ?_⟩
  have : g (11 + 1 + c) = g0 (11 + 1 + c) := hW.1 _ (by omega) (by omega) (by omega)
  rw [this]
  exact hT.2 c hc
noncomputable def Fl (h : jH) (c : Nat) : Nat := bn (h 3) (h 2 1) (h 2 2) (h 2 3) (c % 64) (c / 64 % 64) (c / 4096)
noncomputable def Fm (h : jH) (c : Nat) : Nat := ind (nxC (h 3) (h 2 1) (h 2 3) (c % 64) (c / 64 % 64) (c / 4096) ∧ bn (h 3) (h 2 1) (h 2 2) (h 2 3) (c % 64) (c / 64 % 64) (c / 4096) = 0)
theorem ln_ok (h : jH) {n : Nat} (h0 : jH) (hT : Tb 11 h0 h (lgX h)) (hG : G5 (h 3) (h 2 1) (h 2 2) (h 2 3)) (hn : n ≤ 300) (en : h 1 6 = (n : Int)) (hct : 0 ≤ h 2 4 ∧ h 2 4 < 100000) :
    ∃ g, f_X_lines_lp48 ((nm (lgX h) : Nat) : Int) (fun l10 l11 h12 => some (l10, h12)) 30000 0 0 h = some (((TS (lgX h) (Fl h) 20480 : Nat) : Int), g) ∧ WK h g n := by
  have hL : becL (lgX h) := lg_bec _ _ _ _
  have hnm := nm_le (lgX h)
  obtain ⟨s', ⟨m, m1, m2, m3, m4⟩, h2⟩ := lp_all (fun q (i : Nat) (s : Int × jH) => f_X_lines_lp48 ((nm (lgX h) : Nat) : Int) (fun l10 l11 h12 => some (l10, h12)) q s.1 (i : Int) s.2) (nm (lgX h)) (fun s => some (s.1, s.2))
    (fun i s => ∃ m, m ≤ 20480 ∧ cc (lgX h) m = i ∧ s.1 = ((TS (lgX h) (Fl h) m : Nat) : Int) ∧ WK h s.2 n) (by
      intro q s hs
      show f_X_lines_lp48 _ _ (q + 1) s.1 _ s.2 = _
      rw [f_X_lines_lp48, if_pos (by omega)]) (by
      intro q i s hi hs
      show ∃ s' : Int × jH, _ ∧ f_X_lines_lp48 _ _ (q + 1) s.1 _ s.2 = f_X_lines_lp48 _ _ q s'.1 ((i + 1 : Nat) : Int) s'.2
      obtain ⟨m, m1, m2, m3, m4⟩ := hs
      obtain ⟨v, v1, v2⟩ := cdX_ok s.2 s.2 (lgX h) (Tb_wk hT m4) hL i (by omega)
      obtain ⟨c, a1, a2, a3, a4, a5, a6⟩ := TS_st (F := Fl h) hL hi ⟨m1, m2⟩ v2
      have hl : lgX h (c % 64) (c / 64 % 64) (c / 4096) := a2
      obtain ⟨g1, b1, ⟨b2, b3, b4, b5⟩, b6⟩ := tryX h s.2 (f := c % 64) (x := c / 64 % 64) (c := c / 4096) (by omega) (by omega) (by omega) hG hl hn hct m4
      have hG1 := nxG hG (f := c % 64) (x := c / 64 % 64) (c := c / 4096) (by omega) (by omega) (by omega) hl
      obtain ⟨e1, e2⟩ := nm_nx b2 b3 b4 b5 hG1
      obtain ⟨g2, d1, d2⟩ := gat_ok2 14 g1 (by omega) e2
      obtain ⟨g3, t1, t2⟩ := b6 g2 (fun a h1 h2 => d2.1 a h1 h2)
      have hb := nm_le (nxL (h 3) (h 2 1) (h 2 2) (h 2 3) (c % 64) (c / 64 % 64) (c / 4096))
      have hs1 := TS_le (lgX h) (Fl h) (fun c => nm_le _) m
      rw [f_X_lines_lp48, if_neg (by omega), v1, obs, a3, c3_of a1, b1, obs, d1, obs]
      show ∃ s' : Int × jH, _ ∧ (f_Gm_takeBack g2).bind _ = _
      rw [t1, obs, jadd_eq (a := (i : Int)) (by omega) (by omega), e1]
      refine ⟨(((TS (lgX h) (Fl h) (c + 1) : Nat) : Int), g3), ⟨c + 1, a4, a5, rfl, t2⟩, ?_⟩
      have e9 : jadd s.1 ((bn (h 3) (h 2 1) (h 2 2) (h 2 3) (c % 64) (c / 64 % 64) (c / 4096) : Nat) : Int) = ((TS (lgX h) (Fl h) (c + 1) : Nat) : Int) := by
        have e8 : Fl h c = bn (h 3) (h 2 1) (h 2 2) (h 2 3) (c % 64) (c / 64 % 64) (c / 4096) := rfl
        have hb' : bn (h 3) (h 2 1) (h 2 2) (h 2 3) (c % 64) (c / 64 % 64) (c / 4096) ≤ 20480 := hb
        rw [a6, e8, m3, jadd_eq (by omega) (by omega)]; omega
      show f_X_lines_lp48 _ _ q (jadd s.1 ((bn (h 3) (h 2 1) (h 2 2) (h 2 3) (c % 64) (c / 64 % 64) (c / 4096) : Nat) : Int)) _ g3 = _
      rw [e9]
      rfl) (0, h) 30000 ⟨0, by omega, rfl, rfl, WK_0 en⟩ (by omega)
  refine ⟨s'.2, ?_, m4⟩
  rw [TS_e (m := 20480) (m' := m) (by rw [cc_nm hL, m2]), ← m3]
  exact h2
theorem ma_ok (h : jH) {n : Nat} (h0 : jH) (hT : Tb 11 h0 h (lgX h)) (hG : G5 (h 3) (h 2 1) (h 2 2) (h 2 3)) (hn : n ≤ 300) (en : h 1 6 = (n : Int)) (hct : 0 ≤ h 2 4 ∧ h 2 4 < 100000) :
    ∃ g, f_X_mates_lp25 ((nm (lgX h) : Nat) : Int) (fun l10 l11 h12 => some (l10, h12)) 30000 0 0 h = some (((TS (lgX h) (Fm h) 20480 : Nat) : Int), g) ∧ WK h g n := by
  have hL : becL (lgX h) := lg_bec _ _ _ _
  have hnm := nm_le (lgX h)
  have hFm : ∀ c, Fm h c ≤ 1 := fun c => ind_le _
  obtain ⟨s', ⟨m, m1, m2, m3, m4⟩, h2⟩ := lp_all (fun q (i : Nat) (s : Int × jH) => f_X_mates_lp25 ((nm (lgX h) : Nat) : Int) (fun l10 l11 h12 => some (l10, h12)) q s.1 (i : Int) s.2) (nm (lgX h)) (fun s => some (s.1, s.2))
    (fun i s => ∃ m, m ≤ 20480 ∧ cc (lgX h) m = i ∧ s.1 = ((TS (lgX h) (Fm h) m : Nat) : Int) ∧ WK h s.2 n) (by
      intro q s hs
      show f_X_mates_lp25 _ _ (q + 1) s.1 _ s.2 = _
      rw [f_X_mates_lp25, if_pos (by omega)]) (by
      intro q i s hi hs
      show ∃ s' : Int × jH, _ ∧ f_X_mates_lp25 _ _ (q + 1) s.1 _ s.2 = f_X_mates_lp25 _ _ q s'.1 ((i + 1 : Nat) : Int) s'.2
      obtain ⟨m, m1, m2, m3, m4⟩ := hs
      obtain ⟨v, v1, v2⟩ := cdX_ok s.2 s.2 (lgX h) (Tb_wk hT m4) hL i (by omega)
      obtain ⟨c, a1, a2, a3, a4, a5, a6⟩ := TS_st (F := Fm h) hL hi ⟨m1, m2⟩ v2
      have hl : lgX h (c % 64) (c / 64 % 64) (c / 4096) := a2
      obtain ⟨g1, b1, ⟨b2, b3, b4, b5⟩, b6⟩ := tryX h s.2 (f := c % 64) (x := c / 64 % 64) (c := c / 4096) (by omega) (by omega) (by omega) hG hl hn hct m4
      have hG1 := nxG hG (f := c % 64) (x := c / 64 % 64) (c := c / 4096) (by omega) (by omega) (by omega) hl
      obtain ⟨e1, e2⟩ := nm_nx b2 b3 b4 b5 hG1
      obtain ⟨⟨z, z1, z2, z3⟩, -⟩ := ck_nx b2 b3 hG1
      have hs1 := TS_le (lgX h) (Fm h) (fun c => by have := hFm c; omega) m
      have fin : ∀ (g2 : jH) (l : Int), (∀ a, a ≠ 15 → a ≠ 16 → g2 a = g1 a) → l = s.1 + (Fm h c : Int) → ∃ s' : Int × jH, (∃ m, m ≤ 20480 ∧ cc (lgX h) m = i + 1 ∧ s'.1 = ((TS (lgX h) (Fm h) m : Nat) : Int) ∧ WK h s'.2 n) ∧ f_X_mates_j79_25 (f_X_mates_lp25 ((nm (lgX h) : Nat) : Int) (fun l10 l11 h12 => some (l10, h12)) q) (fun l10 l11 h12 => some (l10, h12)) s.2 g2 ((nm (lgX h) : Nat) : Int) l (i : Int) = f_X_mates_lp25 ((nm (lgX h) : Nat) : Int) (fun l10 l11 h12 => some (l10, h12)) q s'.1 ((i + 1 : Nat) : Int) s'.2 := by
        intro g2 l h1 h2
        obtain ⟨g3, t1, t2⟩ := b6 g2 h1
        refine ⟨(l, g3), ⟨c + 1, a4, a5, ?_, t2⟩, ?_⟩
        · show l = _
          rw [a6, h2, m3]; omega
        · unfold f_X_mates_j79_25
          rw [t1, obs, jadd_eq (a := (i : Int)) (by omega) (by omega)]
          rfl
      rw [f_X_mates_lp25, if_neg (by omega), v1, obs, a3, c3_of a1, b1, obs, z1, obs]
      by_cases d : z = 0
      · rw [if_pos d]
        refine fin g1 s.1 (fun _ _ _ => rfl) ?_
        have : Fm h c = 0 := ind_0 (fun q => by have := z3.mpr q.1; omega)
        rw [this]; omega
      · rw [if_neg d]
        obtain ⟨g2, d1, d2⟩ := gat_ok2 14 g1 (by omega) e2
        rw [d1, obs, e1]
        refine fin g2 _ (fun a h1 h2 => d2.1 a h1 h2) ?_
        show (if ((bn (h 3) (h 2 1) (h 2 2) (h 2 3) (c % 64) (c / 64 % 64) (c / 4096) : Nat) : Int) = 0 then jadd s.1 1 else s.1) = _
        by_cases d' : bn (h 3) (h 2 1) (h 2 2) (h 2 3) (c % 64) (c / 64 % 64) (c / 4096) = 0
        · rw [if_pos (by omega), jadd_eq (by omega) (by omega), show Fm h c = 1 from ind_1 ⟨z3.mp (by omega), d'⟩]; rfl
        · rw [if_neg (by omega), show Fm h c = 0 from ind_0 (fun q => d' q.2)]; omega) (0, h) 30000 ⟨0, by omega, rfl, rfl, WK_0 en⟩ (by omega)
  refine ⟨s'.2, ?_, m4⟩
  rw [TS_e (m := 20480) (m' := m) (by rw [cc_nm hL, m2]), ← m3]
  exact h2
theorem cf_ok (h : jH) {r o : Nat} (h1 : o ≠ r + 1) (h2 : o ≠ r) : ∃ h', f_Bd_copyFrom r o h = some h' ∧ (∀ a, a ≠ r → a ≠ r + 1 → h' a = h a) ∧ EqB (h' (r + 1)) (h (o + 1)) ∧ h' r 1 = h o 1 ∧ h' r 2 = h o 2 ∧ h' r 3 = h o 3 ∧ h' r 4 = h o 4 := by
  unfold f_Bd_copyFrom f_Bd_enterState
  rw [obs]
  generalize hg : jcp h (r + 1) (fun k => if k < 64 then h (o + 1) k else h (r + 1) k) = g
  have go : g o = h o := by rw [← hg]; exact jcp_n _ _ h1
  rw [go]
  refine ⟨_, rfl, fun a a1 a2 => ?_, fun y hy => ?_, ?_, ?_, ?_, ?_⟩
  · rw [jup_n _ _ _ a1, jup_n _ _ _ a1, jup_n _ _ _ a1, jup_n _ _ _ a1, ← hg]; exact jcp_n _ _ a2
  · rw [jup_n _ _ _ (by omega), jup_n _ _ _ (by omega), jup_n _ _ _ (by omega), jup_n _ _ _ (by omega), ← hg, jcp_s, if_pos hy]
  · rw [jup_sn _ _ _ (by decide), jup_sn _ _ _ (by decide), jup_sn _ _ _ (by decide), jup_ss]
  · rw [jup_sn _ _ _ (by decide), jup_sn _ _ _ (by decide), jup_ss]
  · rw [jup_sn _ _ _ (by decide), jup_ss]
  · rw [jup_ss]
theorem lk_ok (h : jH) (hE : EqB (h 3) (h 21)) (e1 : h 2 1 = h 20 1) (e2 : h 2 2 = h 20 2) (e3 : h 2 3 = h 20 3) (e4 : h 2 4 = h 20 4) : f_Bd_isLike h = some 1 := by
  unfold f_Bd_isLike
  obtain ⟨s', h1, h2⟩ := lp_all (fun m (i : Nat) (_ : Unit) => f_Bd_isLike_lp2 h (fun l2 => some (if h 2 1 = h 20 1 then if h 2 2 = h 20 2 then if h 2 3 = h 20 3 then if h 2 4 = h 20 4 then 1 else 0 else 0 else 0 else 0)) m (i : Int)) 64 (fun _ => some 1)
    (fun i s => True) (by
      intro m s hs
      show f_Bd_isLike_lp2 _ _ (m + 1) _ = _
      rw [f_Bd_isLike_lp2, if_pos (by omega), if_pos e1, if_pos e2, if_pos e3, if_pos e4]) (by
      intro m i s hi hs
      show ∃ s', _ ∧ f_Bd_isLike_lp2 _ _ (m + 1) _ = f_Bd_isLike_lp2 _ _ m ((i + 1 : Nat) : Int)
      rw [f_Bd_isLike_lp2, if_neg (by omega), jgd_pos (by omega), jgd_pos (by omega), Int.toNat_natCast, if_pos (hE i hi), jadd_eq (by omega) (by omega)]
      exact ⟨(), trivial, rfl⟩) () 1000 trivial (by omega)
  exact h2
theorem chk_ok (h : jH) {n : Nat} (h0 : jH) (hT : Tb 11 h0 h (lgX h)) (hG : G5 (h 3) (h 2 1) (h 2 2) (h 2 3)) (hn : n ≤ 300) (en : h 1 6 = (n : Int)) (hct : 0 ≤ h 2 4 ∧ h 2 4 < 100000) (hE : EqB (h 3) (h 21)) (e1 : h 2 1 = h 20 1) (e2 : h 2 2 = h 20 2) (e3 : h 2 3 = h 20 3) (e4 : h 2 4 = h 20 4) (K : Int → jH → Option (Int × jH)) :
    ∃ g i, f_X_check_lp51 ((nm (lgX h) : Nat) : Int) (n : Int) (h 2 1) K 30000 0 h = K i g ∧ WK h g n := by
  have hL : becL (lgX h) := lg_bec _ _ _ _
  have hnm := nm_le (lgX h)
  obtain ⟨s', hs, h2⟩ := lp_all (fun q (i : Nat) (s : jH) => f_X_check_lp51 ((nm (lgX h) : Nat) : Int) (n : Int) (h 2 1) K q (i : Int) s) (nm (lgX h)) (fun s => K ((nm (lgX h) : Nat) : Int) s)
    (fun i s => (∃ m, m ≤ 20480 ∧ cc (lgX h) m = i) ∧ WK h s n) (by
      intro q s hs
      show f_X_check_lp51 _ _ _ _ (q + 1) _ s = _
      rw [f_X_check_lp51, if_pos (by omega)]) (by
      intro q i s hi hs
      show ∃ s' : jH, _ ∧ f_X_check_lp51 _ _ _ _ (q + 1) _ s = f_X_check_lp51 _ _ _ _ q ((i + 1 : Nat) : Int) s'
      obtain ⟨⟨m, m1, m2⟩, m4⟩ := hs
      obtain ⟨v, v1, v2⟩ := cdX_ok s s (lgX h) (Tb_wk hT m4) hL i (by omega)
      obtain ⟨c, a1, a2, a3, a4, a5, a6⟩ := TS_st (F := Fm h) hL hi ⟨m1, m2⟩ v2
      have hl : lgX h (c % 64) (c / 64 % 64) (c / 4096) := a2
      obtain ⟨g1, b1, ⟨b2, b3, b4, b5⟩, b6⟩ := tryX h s (f := c % 64) (x := c / 64 % 64) (c := c / 4096) (by omega) (by omega) (by omega) hG hl hn hct m4
      have hG1 := nxG hG (f := c % 64) (x := c / 64 % 64) (c := c / 4096) (by omega) (by omega) (by omega) hl
      obtain ⟨-, z⟩ := ck_nx b2 b3 hG1
      obtain ⟨g3, t1, t2⟩ := b6 g1 (fun _ _ _ => rfl)
      rw [f_X_check_lp51, if_neg (by omega), v1, obs, a3, c3_of a1, b1, obs, z, obs, if_pos rfl]
      unfold f_X_check_j89_51
      rw [t1, obs, if_neg (by decide), t2.2.1, if_pos rfl]
      obtain ⟨w1, w2, ⟨k1, k2, k3, k4, k5⟩, w4⟩ := t2
      have c20 : g3 20 = h 20 := w1 20 (by omega) (by omega) (by omega)
      have c21 : g3 21 = h 21 := w1 21 (by omega) (by omega) (by omega)
      rw [lk_ok g3 (by rw [c21]; exact EqB_tr k1 hE) (by rw [c20, k2]; exact e1) (by rw [c20, k3]; exact e2) (by rw [c20, k4]; exact e3) (by rw [c20, k5]; exact e4), obs, if_neg (by decide), jadd_eq (by omega) (by omega)]
      exact ⟨g3, ⟨⟨c + 1, a4, a5⟩, w1, w2, ⟨k1, k2, k3, k4, k5⟩, w4⟩, rfl⟩) h 30000 ⟨⟨0, by omega, rfl⟩, WK_0 en⟩ (by omega)
  exact ⟨s', _, h2, hs.2⟩
