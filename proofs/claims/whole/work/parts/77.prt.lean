/-! printing: the reference -/
def SM (h0 : jH) (act : jH → Option (Int × jH)) (l : List Int) (K : jH → Option (Int × jH)) : Prop := ∀ h pre, SmM h0 h → OutM h pre → pre.length + l.length ≤ 100 → ∃ h', act h = K h' ∧ SmM h0 h' ∧ OutM h' (pre ++ l)
theorem SM_seq {h0 : jH} {a b c : jH → Option (Int × jH)} {l m : List Int} (ha : SM h0 a l b) (hb : SM h0 b m c) : SM h0 a (l ++ m) c := by
  intro h pre hs ho hl
  rw [List.length_append] at hl
  obtain ⟨h1, a1, a2, a3⟩ := ha h pre hs ho (by omega)
  obtain ⟨h2, b1, b2, b3⟩ := hb h1 (pre ++ l) a2 a3 (by rw [List.length_append]; omega)
  exact ⟨h2, a1.trans b1, b2, by rw [← List.append_assoc]; exact b3⟩
theorem SM_none (h0 : jH) (a : jH → Option (Int × jH)) : SM h0 a [] a := fun h pre hs ho _ => ⟨h, rfl, hs, by rw [List.append_nil]; exact ho⟩
theorem SM_say (h0 : jH) (v : Int) (K : jH → Option (Int × jH)) : SM h0 (fun h => (f_M_say h v).bind K) [v] K := by
  intro h pre hs ho hl
  obtain ⟨h', a1, a2, a3⟩ := sayM v hs ho (by simp only [List.length_cons, List.length_nil] at hl; omega)
  refine ⟨h', ?_, a2, a3⟩
  show (f_M_say h v).bind K = _
  rw [a1, obs]
theorem SM_e {h0 : jH} {a a' b : jH → Option (Int × jH)} {l m : List Int} (h : SM h0 a l b) (e : ∀ g, SmM h0 g → a' g = a g) (el : l = m) : SM h0 a' m b := by
  subst el
  intro g pre hs ho hl
  rw [e g hs]
  exact h g pre hs ho hl
theorem SM_k {h0 : jH} {a b b' : jH → Option (Int × jH)} {l : List Int} (h : SM h0 a l b) (e : ∀ g, SmM h0 g → b g = b' g) : SM h0 a l b' := by
  intro g pre hs ho hl
  obtain ⟨h', a1, a2, a3⟩ := h g pre hs ho hl
  exact ⟨h', by rw [← e h' a2]; exact a1, a2, a3⟩
theorem SmM_mb {h0 h : jH} (hs : SmM h0 h) (n : Nat) : mb h n = mb h0 n := mb_e (hs.1 25 (by decide) (by decide)) n
theorem rowM (h0 : jH) {n : Nat} (en : h0 24 7 = (n : Int)) (hn : n ≤ 303) (hB : BR (mb h0 n)) (k : Int → Int → jH → Option (Int × jH)) {q : Nat} (hq : q < 8) (fu : Nat) : ∀ m, m < 8 → ∀ g : Nat, g + m ≤ 7 → SM h0 (fun h => f_M_print_lp23 k (fu + (m + 1)) (g : Int) ((8 * q + (7 - m) : Nat) : Int) h) (rowL (mb h0 n) (7 - q) (m + 1) g ++ [if q = 7 then 32 else 47]) (fun h => f_M_print_lp23 k fu 0 ((8 * (q + 1) : Nat) : Int) h) := by
  intro m
  induction m with
  | zero =>
    intro _ g hg
    have hb := hB (8 * (7 - q) + 7) (by omega)
    have est : ∀ h, SmM h0 h → f_M_print_lp23 k (fu + (0 + 1)) (g : Int) ((8 * q + (7 - 0) : Nat) : Int) h = f_M_print_j66_23 (f_M_print_lp23 k fu) k h h (g : Int) ((8 * q + 7 : Nat) : Int) (mb h0 n (8 * (7 - q) + 7)) := by
      intro h hs
      have e7 : h 24 7 = (n : Int) := by rw [hs.2 7 (by decide) (by decide)]; exact en
      show f_M_print_lp23 k (fu + 1) (g : Int) ((8 * q + 7 : Nat) : Int) h = _
      rw [f_M_print_lp23, if_neg (by omega), jdiv_eq (by omega) (by omega) (by decide) (by decide), jrem_eq (by omega) (by omega) (by decide) (by decide), jsub_eq (by omega) (by omega), jmul_eq (by omega) (by omega), jadd_eq (by omega) (by omega), show 8 * (7 - ((8 * q + 7 : Nat) : Int) / 8) + ((8 * q + 7 : Nat) : Int) % 8 = ((8 * (7 - q) + 7 : Nat) : Int) by omega, e7, pc_ok h (by omega) (by omega), obs, SmM_mb hs n]
      by_cases c : 0 < mb h0 n (8 * (7 - q) + 7)
      · rw [if_pos c]
      · rw [if_neg c, if_pos (by omega)]
    have sep : SM h0 (fun h => f_M_print_j125_23 (f_M_print_lp23 k fu) k h h 0 ((8 * q + 7 : Nat) : Int)) [if q = 7 then 32 else 47] (fun h => f_M_print_lp23 k fu 0 ((8 * (q + 1) : Nat) : Int) h) := by
      refine SM_e (SM_say h0 (if q = 7 then 32 else 47) (fun h => f_M_print_lp23 k fu 0 ((8 * (q + 1) : Nat) : Int) h)) (fun z _ => ?_) rfl
      unfold f_M_print_j125_23 f_M_print_j148_23
      rw [jrem_eq (by omega) (by omega) (by decide) (by decide), if_pos (by omega), jadd_eq (by omega) (by omega), show ((8 * q + 7 : Nat) : Int) + 1 = ((8 * (q + 1) : Nat) : Int) by omega]
      have : (if (63 : Int) ≤ ((8 * q + 7 : Nat) : Int) then (32 : Int) else 47) = if q = 7 then 32 else 47 := by
        by_cases c : q = 7
        · rw [if_pos c, if_pos (by omega)]
        · rw [if_neg c, if_neg (by omega)]
      rw [this]
    have j125 : ∀ h3 h, f_M_print_j125_23 (f_M_print_lp23 k fu) k h3 h 0 ((8 * q + 7 : Nat) : Int) = f_M_print_j125_23 (f_M_print_lp23 k fu) k h h 0 ((8 * q + 7 : Nat) : Int) := fun _ _ => rfl
    unfold rowL
    by_cases c : mb h0 n (8 * (7 - q) + (7 - 0)) = 0
    · rw [if_pos c]
      unfold rowL gapL
      rw [if_neg (by omega)]
      refine SM_e (SM_seq (SM_say h0 (48 + ((g + 1 : Nat) : Int)) _) sep) (fun z hz => ?_) rfl
      have c' : mb h0 n (8 * (7 - q) + 7) = 0 := c
      rw [est z hz, c']
      unfold f_M_print_j66_23 f_M_print_j71_23 f_M_print_j84_23
      rw [if_neg (show ¬ (1 : Int) = 0 by decide), if_pos (show (0 : Int) ≤ 0 by decide), jadd_eq (a := (g : Int)) (b := 1) (by omega) (by omega), if_neg (show ¬ (g : Int) + 1 ≤ 0 by omega), jadd_eq (by omega) (by omega)]
      rfl
    · rw [if_neg c]
      have hp : 1 ≤ mb h0 n (8 * (7 - q) + 7) := by
        have c' : ¬ mb h0 n (8 * (7 - q) + 7) = 0 := c
        omega
      have sl : SM h0 (fun h => f_M_print_j112_23 (f_M_print_lp23 k fu) k h h ((8 * q + 7 : Nat) : Int) (mb h0 n (8 * (7 - q) + 7)) 0) ([ltr (mb h0 n (8 * (7 - q) + 7))] ++ [if q = 7 then 32 else 47]) (fun h => f_M_print_lp23 k fu 0 ((8 * (q + 1) : Nat) : Int) h) := by
        refine SM_e (SM_seq (SM_say h0 (ltr (mb h0 n (8 * (7 - q) + 7))) _) sep) (fun z hz => ?_) rfl
        unfold f_M_print_j112_23
        rw [if_neg (by omega), let_ok z hp hb.2, obs]
        rfl
      have ea : gapL g ++ ([ltr (mb h0 n (8 * (7 - q) + (7 - 0)))] ++ rowL (mb h0 n) (7 - q) 0 0) ++ [if q = 7 then 32 else 47] = gapL g ++ ([ltr (mb h0 n (8 * (7 - q) + 7))] ++ [if q = 7 then (32 : Int) else 47]) := by
        have : rowL (mb h0 n) (7 - q) 0 0 = [] := rfl
        rw [this, List.append_nil, List.append_assoc]
      rw [ea]
      unfold gapL
      by_cases d : g = 0
      · rw [if_pos d]
        refine SM_e sl (fun z hz => ?_) (by rw [List.nil_append])
        rw [est z hz]
        unfold f_M_print_j66_23 f_M_print_j71_23 f_M_print_j84_23
        rw [if_neg (show ¬ (1 : Int) = 0 by decide), if_neg (show ¬ mb h0 n (8 * (7 - q) + 7) ≤ 0 by omega), if_pos (show (g : Int) ≤ 0 by omega)]
        rfl
      · rw [if_neg d]
        refine SM_e (SM_seq (SM_say h0 (48 + (g : Int)) _) sl) (fun z hz => ?_) rfl
        rw [est z hz]
        unfold f_M_print_j66_23 f_M_print_j71_23 f_M_print_j84_23
        rw [if_neg (show ¬ (1 : Int) = 0 by decide), if_neg (show ¬ mb h0 n (8 * (7 - q) + 7) ≤ 0 by omega), if_neg (show ¬ (g : Int) ≤ 0 by omega), jadd_eq (by omega) (by omega)]
        rfl
  | succ m ih =>
    intro hm g hg
    have hb := hB (8 * (7 - q) + (6 - m)) (by omega)
    have e6 : 7 - (m + 1) = 6 - m := by omega
    have est : ∀ h, SmM h0 h → f_M_print_lp23 k (fu + (m + 1 + 1)) (g : Int) ((8 * q + (7 - (m + 1)) : Nat) : Int) h = if 0 < mb h0 n (8 * (7 - q) + (6 - m)) then f_M_print_j66_23 (f_M_print_lp23 k (fu + (m + 1))) k h h (g : Int) ((8 * q + (6 - m) : Nat) : Int) (mb h0 n (8 * (7 - q) + (6 - m))) else f_M_print_j71_23 (f_M_print_lp23 k (fu + (m + 1))) k h h (g : Int) ((8 * q + (6 - m) : Nat) : Int) (mb h0 n (8 * (7 - q) + (6 - m))) 0 := by
      intro h hs
      have e7 : h 24 7 = (n : Int) := by rw [hs.2 7 (by decide) (by decide)]; exact en
      rw [e6]
      show f_M_print_lp23 k (fu + (m + 1) + 1) (g : Int) ((8 * q + (6 - m) : Nat) : Int) h = _
      rw [f_M_print_lp23, if_neg (by omega), jdiv_eq (by omega) (by omega) (by decide) (by decide), jrem_eq (by omega) (by omega) (by decide) (by decide), jsub_eq (by omega) (by omega), jmul_eq (by omega) (by omega), jadd_eq (by omega) (by omega), show 8 * (7 - ((8 * q + (6 - m) : Nat) : Int) / 8) + ((8 * q + (6 - m) : Nat) : Int) % 8 = ((8 * (7 - q) + (6 - m) : Nat) : Int) by omega, e7, pc_ok h (by omega) (by omega), obs, SmM_mb hs n]
      by_cases c : 0 < mb h0 n (8 * (7 - q) + (6 - m))
      · rw [if_pos c, if_pos c]
      · rw [if_neg c, if_neg c, if_neg (by omega)]
    have nx : ∀ (z h3 : jH) (g' : Int), f_M_print_j125_23 (f_M_print_lp23 k (fu + (m + 1))) k h3 z g' ((8 * q + (6 - m) : Nat) : Int) = f_M_print_lp23 k (fu + (m + 1)) g' ((8 * q + (7 - m) : Nat) : Int) z := by
      intro z h3 g'
      unfold f_M_print_j125_23
      rw [jrem_eq (by omega) (by omega) (by decide) (by decide), if_neg (by omega), jadd_eq (by omega) (by omega), show ((8 * q + (6 - m) : Nat) : Int) + 1 = ((8 * q + (7 - m) : Nat) : Int) by omega]
    have er : rowL (mb h0 n) (7 - q) (m + 1 + 1) g = if mb h0 n (8 * (7 - q) + (6 - m)) = 0 then rowL (mb h0 n) (7 - q) (m + 1) (g + 1) else gapL g ++ ([ltr (mb h0 n (8 * (7 - q) + (6 - m)))] ++ rowL (mb h0 n) (7 - q) (m + 1) 0) := by
      rw [rowL, e6]
    rw [er]
    by_cases c : mb h0 n (8 * (7 - q) + (6 - m)) = 0
    · rw [if_pos c]
      refine SM_e (ih (by omega) (g + 1) (by omega)) (fun z hz => ?_) rfl
      rw [est z hz, if_neg (by omega), c]
      unfold f_M_print_j71_23 f_M_print_j84_23
      rw [if_pos rfl, if_pos (by decide), jadd_eq (by omega) (by omega)]
      unfold f_M_print_j102_23 f_M_print_j112_23
      rw [if_pos (show (0 : Int) ≤ 0 by decide), if_pos rfl, nx]
      rfl
    · rw [if_neg c]
      have hp : 1 ≤ mb h0 n (8 * (7 - q) + (6 - m)) := by omega
      have i0 := ih (by omega) 0 (by omega)
      have sl : SM h0 (fun h => f_M_print_j112_23 (f_M_print_lp23 k (fu + (m + 1))) k h h ((8 * q + (6 - m) : Nat) : Int) (mb h0 n (8 * (7 - q) + (6 - m))) 0) ([ltr (mb h0 n (8 * (7 - q) + (6 - m)))] ++ (rowL (mb h0 n) (7 - q) (m + 1) 0 ++ [if q = 7 then 32 else 47])) (fun h => f_M_print_lp23 k fu 0 ((8 * (q + 1) : Nat) : Int) h) := by
        refine SM_e (SM_seq (SM_say h0 (ltr (mb h0 n (8 * (7 - q) + (6 - m)))) _) i0) (fun z hz => ?_) rfl
        unfold f_M_print_j112_23
        rw [if_neg (by omega), let_ok z hp hb.2, obs]
        congr 1
        funext v
        exact nx v z 0
      have ea : gapL g ++ ([ltr (mb h0 n (8 * (7 - q) + (6 - m)))] ++ rowL (mb h0 n) (7 - q) (m + 1) 0) ++ [if q = 7 then 32 else 47] = gapL g ++ ([ltr (mb h0 n (8 * (7 - q) + (6 - m)))] ++ (rowL (mb h0 n) (7 - q) (m + 1) 0 ++ [if q = 7 then (32 : Int) else 47])) := by
        rw [List.append_assoc, List.append_assoc]
      rw [ea]
      unfold gapL
      by_cases d : g = 0
      · rw [if_pos d]
        refine SM_e sl (fun z hz => ?_) (by rw [List.nil_append])
        rw [est z hz, if_pos (by omega)]
        unfold f_M_print_j66_23 f_M_print_j71_23 f_M_print_j84_23
        rw [if_neg (show ¬ (1 : Int) = 0 by decide), if_neg (show ¬ mb h0 n (8 * (7 - q) + (6 - m)) ≤ 0 by omega), if_pos (show (g : Int) ≤ 0 by omega)]
        rfl
      · rw [if_neg d]
        refine SM_e (SM_seq (SM_say h0 (48 + (g : Int)) _) sl) (fun z hz => ?_) rfl
        rw [est z hz, if_pos (by omega)]
        unfold f_M_print_j66_23 f_M_print_j71_23 f_M_print_j84_23
        rw [if_neg (show ¬ (1 : Int) = 0 by decide), if_neg (show ¬ mb h0 n (8 * (7 - q) + (6 - m)) ≤ 0 by omega), if_neg (show ¬ (g : Int) ≤ 0 by omega), jadd_eq (by omega) (by omega)]
        rfl
theorem sqM (h0 : jH) {n : Nat} (en : h0 24 7 = (n : Int)) (hn : n ≤ 303) (hB : BR (mb h0 n)) (k : Int → Int → jH → Option (Int × jH)) (fu : Nat) : ∀ q, q ≤ 8 → SM h0 (fun h => f_M_print_lp23 k (fu + 64) 0 0 h) (sqL (mb h0 n) q) (fun h => f_M_print_lp23 k (fu + 8 * (8 - q)) 0 ((8 * q : Nat) : Int) h) := by
  intro q
  induction q with
  | zero => intro _; exact SM_none h0 _
  | succ q ih =>
    intro hq
    have r := rowM h0 en hn hB k (show q < 8 by omega) (fu + 8 * (8 - (q + 1))) 7 (by omega) 0 (by omega)
    have e : fu + 8 * (8 - (q + 1)) + (7 + 1) = fu + 8 * (8 - q) := by omega
    have e2 : 8 * q + (7 - 7) = 8 * q := by omega
    rw [e, e2] at r
    exact SM_seq (ih (by omega)) r
theorem rgM (h0 : jH) {n r : Nat} (en : h0 24 7 = (n : Int)) (hn : n ≤ 303) (er : h0 27 n = (r : Int)) (hr : r < 16) (k : Int → jH → Option (Int × jH)) (G : jH → Option (Int × jH)) (hk : ∀ a h, k a h = G h) : ∀ m, m ≤ 4 → ∀ q, m < q → SM h0 (fun h => f_M_print_lp188 k q (4 - (m : Int)) h) (rgT r m) G := by
  intro m
  induction m with
  | zero =>
    intro _ q hq
    obtain ⟨q, rfl⟩ : ∃ q', q = q' + 1 := ⟨q - 1, by omega⟩
    exact SM_e (SM_none h0 G) (fun z _ => by rw [f_M_print_lp188, if_pos (by omega), hk]) rfl
  | succ m ih =>
    intro hm q hq
    obtain ⟨q, rfl⟩ : ∃ q', q = q' + 1 := ⟨q - 1, by omega⟩
    have i1 := ih (by omega) q (by omega)
    have e : 4 - ((m + 1 : Nat) : Int) = ((3 - m : Nat) : Int) := by omega
    have e2 : ((3 - m : Nat) : Int) + 1 = 4 - (m : Int) := by omega
    have tb := rgb_tab r hr (3 - m) (by omega)
    obtain ⟨t1, t2, t3, t4⟩ := rlt_tab (3 - m) (by omega)
    unfold rgT
    have est : ∀ z, SmM h0 z → f_M_print_lp188 k (q + 1) (4 - ((m + 1 : Nat) : Int)) z = if r / 2 ^ (3 - m) % 2 = 0 then f_M_print_lp188 k q (4 - (m : Int)) z else (f_M_say z (rlt (3 - m))).bind fun v => f_M_print_lp188 k q (4 - (m : Int)) v := by
      intro z hz
      have e7 : z 24 7 = (n : Int) := by rw [hz.2 7 (by decide) (by decide)]; exact en
      rw [f_M_print_lp188, e, if_neg (by omega), e7, jgd_pos (by omega), Int.toNat_natCast, hz.1 27 (by decide) (by decide), er, tb]
      by_cases c : r / 2 ^ (3 - m) % 2 = 0
      · rw [if_pos c, if_neg (by omega), jadd_eq (by omega) (by omega), e2]
      · rw [if_neg c, if_pos (by omega)]
        unfold f_M_print_j242_188
        rw [jadd_eq (by omega) (by omega), e2, ← t4]
        rfl
    by_cases c : r / 2 ^ (3 - m) % 2 = 0
    · rw [if_pos c]
      exact SM_e i1 (fun z hz => by rw [est z hz, if_pos c]) (by rw [List.nil_append])
    · rw [if_neg c]
      exact SM_e (SM_seq (SM_say h0 (rlt (3 - m)) _) i1) (fun z hz => by rw [est z hz, if_neg c]) rfl
theorem nuM (h0 : jH) {n : Nat} (en : h0 24 7 = (n : Int)) (hn : n ≤ 303) (c0 : 0 ≤ h0 29 n) (c1 : h0 29 n ≤ 999) : SM h0 (fun h => f_M_print_j335 h) ([32] ++ nuL (h0 29 n)) (fun h => some (h 24 14, h)) := by
  have s1 : SM h0 (fun h => f_M_print_j388 h (h0 29 n)) [48 + h0 29 n % 10] (fun h => some (h 24 14, h)) := by
    refine SM_e (SM_say h0 (48 + h0 29 n % 10) _) (fun z _ => ?_) rfl
    unfold f_M_print_j388
    rw [jrem_eq c0 (by omega) (by decide) (by decide), jadd_eq (by omega) (by omega)]
  have s2 : SM h0 (fun h => f_M_print_j368 h (h0 29 n)) ((if h0 29 n < 10 then [] else [48 + h0 29 n / 10 % 10]) ++ [48 + h0 29 n % 10]) (fun h => some (h 24 14, h)) := by
    by_cases d : h0 29 n < 10
    · rw [if_pos d]
      exact SM_e s1 (fun z _ => by unfold f_M_print_j368; rw [if_pos (by omega)]) (by rw [List.nil_append])
    · rw [if_neg d]
      refine SM_e (SM_seq (SM_say h0 (48 + h0 29 n / 10 % 10) _) s1) (fun z _ => ?_) rfl
      unfold f_M_print_j368
      rw [if_neg (by omega), jdiv_eq c0 (by omega) (by decide) (by decide), jrem_eq (by omega) (by omega) (by decide) (by decide), jadd_eq (by omega) (by omega)]
  have s3 : SM h0 (fun v61 => jgd (0 ≤ v61 24 7 ∧ v61 24 7 < 304) (if v61 29 (v61 24 7).toNat ≤ 99 then f_M_print_j368 v61 (v61 29 (v61 24 7).toNat) else (f_M_say v61 (jadd 48 (jdiv (v61 29 (v61 24 7).toNat) 100))).bind fun v68 => f_M_print_j368 v68 (v61 29 (v61 24 7).toNat))) (nuL (h0 29 n)) (fun h => some (h 24 14, h)) := by
    unfold nuL
    have e7 : ∀ z, SmM h0 z → z 24 7 = (n : Int) ∧ z 29 n = h0 29 n := fun z hz => ⟨by rw [hz.2 7 (by decide) (by decide)]; exact en, by rw [hz.1 29 (by decide) (by decide)]⟩
    by_cases d : h0 29 n < 100
    · rw [if_pos d]
      refine SM_e s2 (fun z hz => ?_) (by rw [List.nil_append])
      rw [(e7 z hz).1, jgd_pos (by omega), Int.toNat_natCast, (e7 z hz).2, if_pos (by omega)]
    · rw [if_neg d]
      refine SM_e (SM_seq (SM_say h0 (48 + h0 29 n / 100) _) s2) (fun z hz => ?_) rfl
      rw [(e7 z hz).1, jgd_pos (by omega), Int.toNat_natCast, (e7 z hz).2, if_neg (by omega), jdiv_eq c0 (by omega) (by decide) (by decide), jadd_eq (by omega) (by omega)]
  exact SM_e (SM_seq (SM_say h0 32 _) s3) (fun z _ => rfl) rfl
theorem stM (h0 : jH) {n : Nat} (en : h0 24 7 = (n : Int)) (hn : n ≤ 303) (hS : StR (h0 26 n) (h0 27 n) (h0 28 n)) (c0 : 0 ≤ h0 29 n) (c1 : h0 29 n ≤ 999) : SM h0 (fun h => f_M_print_j177 h (if h 26 (h 24 7).toNat = 0 then 119 else 98)) ([if h0 26 n = 0 then 119 else 98] ++ ([32] ++ (rgL (h0 27 n).toNat ++ ([32] ++ (psL (h0 26 n) (h0 28 n) ++ ([32] ++ nuL (h0 29 n))))))) (fun h => some (h 24 14, h)) := by
  obtain ⟨hs, r0, r1, f0, f1⟩ := hS
  have e7 : ∀ z, SmM h0 z → z 24 7 = (n : Int) := fun z hz => by rw [hz.2 7 (by decide) (by decide)]; exact en
  have e26 : ∀ z, SmM h0 z → z 26 n = h0 26 n := fun z hz => by rw [hz.1 26 (by decide) (by decide)]
  have e27 : ∀ z, SmM h0 z → z 27 n = h0 27 n := fun z hz => by rw [hz.1 27 (by decide) (by decide)]
  have e28 : ∀ z, SmM h0 z → z 28 n = h0 28 n := fun z hz => by rw [hz.1 28 (by decide) (by decide)]
  have nu := nuM h0 en hn c0 c1
  have k3 : SM h0 f_M_print_j269 ([32] ++ (psL (h0 26 n) (h0 28 n) ++ ([32] ++ nuL (h0 29 n)))) (fun h => some (h 24 14, h)) := by
    have s : SM h0 (fun v55 => jgd (0 ≤ v55 24 7 ∧ v55 24 7 < 304) (if 0 ≤ v55 28 (v55 24 7).toNat then jgd (0 ≤ v55 24 7 ∧ v55 24 7 < 304) ((f_M_say v55 (jadd 97 (v55 28 (v55 24 7).toNat))).bind fun v56 => jgd (0 ≤ v56 24 7 ∧ v56 24 7 < 304) (f_M_print_j332 v56 (if v56 26 (v56 24 7).toNat = 0 then 54 else 51))) else (f_M_say v55 45).bind fun v69 => f_M_print_j335 v69)) (psL (h0 26 n) (h0 28 n) ++ ([32] ++ nuL (h0 29 n))) (fun h => some (h 24 14, h)) := by
      unfold psL
      by_cases c : h0 28 n = -1
      · rw [if_pos c]
        refine SM_e (SM_seq (SM_say h0 45 _) nu) (fun z hz => ?_) rfl
        rw [e7 z hz, jgd_pos (by omega), Int.toNat_natCast, e28 z hz, if_neg (by omega)]
      · rw [if_neg c]
        have s2 : SM h0 (fun v56 => jgd (0 ≤ v56 24 7 ∧ v56 24 7 < 304) (f_M_print_j332 v56 (if v56 26 (v56 24 7).toNat = 0 then 54 else 51))) ([if h0 26 n = 0 then 54 else 51] ++ ([32] ++ nuL (h0 29 n))) (fun h => some (h 24 14, h)) := by
          refine SM_e (SM_seq (SM_say h0 (if h0 26 n = 0 then 54 else 51) _) nu) (fun z hz => ?_) rfl
          rw [e7 z hz, jgd_pos (by omega), Int.toNat_natCast, e26 z hz]
          rfl
        refine SM_e (SM_seq (SM_say h0 (97 + h0 28 n) _) s2) (fun z hz => ?_) rfl
        rw [e7 z hz, jgd_pos (by omega), Int.toNat_natCast, e28 z hz, if_pos (by omega), jgd_pos (by omega), jadd_eq (by omega) (by omega)]
    exact SM_e (SM_seq (SM_say h0 32 _) s) (fun z _ => rfl) rfl
  have er : h0 27 n = (((h0 27 n).toNat : Nat) : Int) := by omega
  have kr : SM h0 (fun h53 => jgd (0 ≤ h53 24 7 ∧ h53 24 7 < 304) (if h53 27 (h53 24 7).toNat = 0 then (f_M_say h53 45).bind fun v70 => f_M_print_j269 v70 else f_M_print_j269 h53)) ((if (h0 27 n).toNat = 0 then [45] else []) ++ ([32] ++ (psL (h0 26 n) (h0 28 n) ++ ([32] ++ nuL (h0 29 n))))) (fun h => some (h 24 14, h)) := by
    by_cases c : (h0 27 n).toNat = 0
    · rw [if_pos c]
      refine SM_e (SM_seq (SM_say h0 45 _) k3) (fun z hz => ?_) rfl
      rw [e7 z hz, jgd_pos (by omega), Int.toNat_natCast, e27 z hz, if_pos (by omega)]
    · rw [if_neg c]
      refine SM_e k3 (fun z hz => ?_) (by rw [List.nil_append])
      rw [e7 z hz, jgd_pos (by omega), Int.toNat_natCast, e27 z hz, if_neg (by omega)]
  have kl := rgM h0 en hn er (show (h0 27 n).toNat < 16 by omega) (fun l52 h53 => jgd (0 ≤ h53 24 7 ∧ h53 24 7 < 304) (if h53 27 (h53 24 7).toNat = 0 then (f_M_say h53 45).bind fun v70 => f_M_print_j269 v70 else f_M_print_j269 h53)) (fun h53 => jgd (0 ≤ h53 24 7 ∧ h53 24 7 < 304) (if h53 27 (h53 24 7).toNat = 0 then (f_M_say h53 45).bind fun v70 => f_M_print_j269 v70 else f_M_print_j269 h53)) (fun _ _ => rfl) 4 (Nat.le_refl _) 1000 (by omega)
  have e4 : (4 - ((4 : Nat) : Int)) = 0 := rfl
  rw [e4] at kl
  have kk := SM_seq kl kr
  have el : rgT (h0 27 n).toNat 4 ++ ((if (h0 27 n).toNat = 0 then [45] else []) ++ ([32] ++ (psL (h0 26 n) (h0 28 n) ++ ([32] ++ nuL (h0 29 n))))) = rgL (h0 27 n).toNat ++ ([32] ++ (psL (h0 26 n) (h0 28 n) ++ ([32] ++ nuL (h0 29 n)))) := by
    unfold rgL
    by_cases c : (h0 27 n).toNat = 0
    · rw [c, rgT_0, if_pos rfl, List.nil_append, List.append_nil]
    · rw [if_neg c, List.nil_append, List.nil_append]
  rw [el] at kk
  refine SM_e (SM_seq (SM_say h0 (if h0 26 n = 0 then 119 else 98) _) (SM_seq (SM_say h0 32 _) kk)) (fun z hz => ?_) rfl
  rw [e7 z hz, Int.toNat_natCast, e26 z hz]
  rfl
theorem prM (h : jH) {n : Nat} (hg : h 24 8 ≠ 0) (en : h 24 7 = (n : Int)) (hn : n ≤ 303) (hB : BR (mb h n)) (hS : StR (h 26 n) (h 27 n) (h 28 n)) (c0 : 0 ≤ h 29 n) (c1 : h 29 n ≤ 999) :
    ∃ h', f_M_print h = some (((outL (mb h n) (h 26 n) (h 27 n) (h 28 n) (h 29 n)).length : Int), h') ∧ SmM h h' ∧ OutM h' (outL (mb h n) (h 26 n) (h 27 n) (h 28 n) (h 29 n)) := by
  unfold f_M_print
  have g8 : jup h 24 0 0 24 8 = h 24 8 := jup_sn _ _ _ (by decide)
  rw [g8, if_neg hg]
  have s0 : SmM h (jup (jup h 24 0 0) 24 14 0) := ⟨fun a h1 h2 => by rw [jup_n _ _ _ h1, jup_n _ _ _ h1], fun k h1 h2 => by rw [jup_sn _ _ _ h2, jup_sn _ _ _ h1]⟩
  have o0 : OutM (jup (jup h 24 0 0) 24 14 0) [] := ⟨jup_ss _ _ _ _, fun i hi => absurd hi (Nat.not_lt_zero _)⟩
  have e7 : ∀ z, SmM h z → z 24 7 = (n : Int) := fun z hz => by rw [hz.2 7 (by decide) (by decide)]; exact en
  have a := sqM h en hn hB (fun l39 l40 h41 => jgd (0 ≤ h41 24 7 ∧ h41 24 7 < 304) (f_M_print_j177 h41 (if h41 26 (h41 24 7).toNat = 0 then 119 else 98))) 936 8 (Nat.le_refl _)
  have b : SM h (fun z => f_M_print_lp23 (fun l39 l40 h41 => jgd (0 ≤ h41 24 7 ∧ h41 24 7 < 304) (f_M_print_j177 h41 (if h41 26 (h41 24 7).toNat = 0 then 119 else 98))) (936 + 8 * (8 - 8)) 0 ((8 * 8 : Nat) : Int) z) _ _ :=
    SM_e (stM h en hn hS c0 c1) (fun z hz => by
      show f_M_print_lp23 _ (935 + 1) 0 _ z = _
      rw [f_M_print_lp23, if_pos (by decide), e7 z hz, jgd_pos (by omega)]) rfl
  have all := SM_seq a b
  have hl := outL_len (mb h n) (h 26 n) (h 27 n) (h 28 n) (h 29 n)
  obtain ⟨h', a1, a2, a3⟩ := all (jup (jup h 24 0 0) 24 14 0) [] s0 o0 (by
    have : (outL (mb h n) (h 26 n) (h 27 n) (h 28 n) (h 29 n)).length ≤ 86 := hl
    unfold outL at this
    simp only [List.length_nil]; omega)
  rw [List.nil_append] at a3
  refine ⟨h', ?_, a2, a3⟩
  have a1' : f_M_print_lp23 (fun l39 l40 h41 => jgd (0 ≤ h41 24 7 ∧ h41 24 7 < 304) (f_M_print_j177 h41 (if h41 26 (h41 24 7).toNat = 0 then 119 else 98))) 1000 0 0 (jup (jup h 24 0 0) 24 14 0) = some (h' 24 14, h') := a1
  rw [a1', a3.1]
  rfl
