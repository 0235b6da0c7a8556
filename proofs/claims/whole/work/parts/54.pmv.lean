/-! the class's moves are the reference's, castling apart -/
def symB (s x : Nat) : Bool := (btw s x).all (fun y => (btw x s).contains y)
theorem sym_tab : ∀ s : Nat, s < 64 → ∀ x : Nat, x < 64 → ((dfl s x = 0 ∨ drk s x = 0 ∨ dfl s x = drk s x) → symB s x = true) := by decide +kernel
theorem dfl_sym (s x : Nat) : dfl s x = dfl x s := iab_sym _ _
theorem drk_sym (s x : Nat) : drk s x = drk x s := iab_sym _ _
theorem clr_sym {b : Nat → Int} {s x : Nat} (hs : s < 64) (hx : x < 64) (ha : dfl s x = 0 ∨ drk s x = 0 ∨ dfl s x = drk s x) : clr b s x ↔ clr b x s := by
  have h1 := sym_tab s hs x hx ha
  have h2 := sym_tab x hx s hs (by rw [dfl_sym x s, drk_sym x s]; exact ha)
  unfold symB at h1 h2
  rw [List.all_eq_true] at h1 h2
  unfold clr
  constructor
  · intro q y hy; exact q y (by have := h2 y hy; simpa using this)
  · intro q y hy; exact q y (by have := h1 y hy; simpa using this)
theorem sl_iff {b : Nat → Int} {s x : Nat} (hB : BR b) (hs : s < 64) (hx : x < 64) (h1 : kd (b s) ≠ 1) (h2 : kd (b s) ≠ 2) (h3 : kd (b s) ≠ 0) :
    attR b s x ↔ ∃ d, d < 8 ∧ ∃ i : Nat, (ray s d)[i]? = some x ∧ (i : Int) + 1 ≤ rch (kd (b s)) d ∧ ∀ y ∈ (ray s d).take i, b y = 0 := by
  obtain ⟨b0, b1⟩ := hB s hs
  have hf0 : 0 ≤ dfl s x := iab_rng _
  have hr0 : 0 ≤ drk s x := iab_rng _
  obtain ⟨on1, on2⟩ := on_ray s hs x hx
  rw [dfl_sym x s, drk_sym x s] at on1 on2
  have fin : ∀ d, d < 8 → x ∈ ray s d → ((d % 2 = 0 ∧ (rch (kd (b s)) d = 7 ∧ clr b s x)) ∨ (d % 2 = 1 ∧ (rch (kd (b s)) d = 7 ∧ clr b s x)) ∨ (rch (kd (b s)) d = 1 ∧ dfl s x ≤ 1 ∧ drk s x ≤ 1)) → ∃ d, d < 8 ∧ ∃ i : Nat, (ray s d)[i]? = some x ∧ (i : Int) + 1 ≤ rch (kd (b s)) d ∧ ∀ y ∈ (ray s d).take i, b y = 0 := by
    intro d hd hm hc
    obtain ⟨i, hi⟩ := List.mem_iff_getElem?.mp hm
    have hi7 : i < 7 := by
      have := (List.getElem?_eq_some_iff.mp hi).1
      have := ray_len s hs d hd
      omega
    obtain ⟨g1, g2⟩ := geo_at hs hd hi
    rw [dfl_sym x s, drk_sym x s] at g2
    have cl : clr b s x → ∀ y ∈ (ray s d).take i, b y = 0 := by
      intro q y hy
      rw [clr_sym hs hx (by omega)] at q
      exact q y ((g1 y).mpr hy)
    refine ⟨d, hd, i, hi, ?_, ?_⟩
    · rcases hc with hc | hc | hc <;> omega
    · rcases hc with hc | hc | hc
      · exact cl hc.2.2
      · exact cl hc.2.2
      · have : i = 0 := by omega
        subst this
        simp
  constructor
  · intro h
    rcases h with q | q | q | q | q | q
    · exact absurd q.1 h1
    · exact absurd q.1 h2
    · obtain ⟨d, d1, d2, d3⟩ := on2 ⟨q.2.1, q.2.2.1⟩
      refine fin d d1 d3 (Or.inr (Or.inl ⟨d2, ?_, q.2.2.2⟩))
      unfold rch; rw [q.1, if_neg (by decide), if_neg (by decide), if_neg (by omega), if_pos ⟨rfl, d2⟩]
    · obtain ⟨d, d1, d2, d3⟩ := on1 q.2.1
      refine fin d d1 d3 (Or.inl ⟨d2, ?_, q.2.2⟩)
      unfold rch; rw [q.1, if_neg (by decide), if_neg (by decide), if_pos ⟨rfl, d2⟩]
    · rcases q.2.1 with q2 | q2
      · obtain ⟨d, d1, d2, d3⟩ := on1 q2
        refine fin d d1 d3 (Or.inl ⟨d2, ?_, q.2.2⟩)
        unfold rch; rw [q.1, if_neg (by decide), if_pos rfl]
      · obtain ⟨d, d1, d2, d3⟩ := on2 q2
        refine fin d d1 d3 (Or.inr (Or.inl ⟨d2, ?_, q.2.2⟩))
        unfold rch; rw [q.1, if_neg (by decide), if_pos rfl]
    · by_cases c : dfl s x = drk s x
      · obtain ⟨d, d1, d2, d3⟩ := on2 ⟨c, by omega⟩
        refine fin d d1 d3 (Or.inr (Or.inr ⟨?_, q.2.1, q.2.2.1⟩))
        unfold rch; rw [q.1, if_pos rfl]
      · obtain ⟨d, d1, d2, d3⟩ := on1 (by omega)
        refine fin d d1 d3 (Or.inr (Or.inr ⟨?_, q.2.1, q.2.2.1⟩))
        unfold rch; rw [q.1, if_pos rfl]
  · rintro ⟨d, hd, i, hi, hr, he⟩
    obtain ⟨g1, g2⟩ := geo_at hs hd hi
    rw [dfl_sym x s, drk_sym x s] at g2
    have cl : clr b s x := by
      rw [clr_sym hs hx (by omega)]
      intro y hy
      exact he y ((g1 y).mp hy)
    have e0 : d % 2 = 0 ∨ d % 2 = 1 := by omega
    have k := kd_cases b0 b1
    rcases k with k | k | k | k | k | k | k
    · exact absurd k h3
    · exact absurd k h1
    · exact absurd k h2
    · refine Or.inr (Or.inr (Or.inl ⟨k, ?_⟩))
      rw [k] at hr
      unfold rch at hr
      rw [if_neg (by decide), if_neg (by decide), if_neg (by omega)] at hr
      by_cases c : d % 2 = 1
      · exact ⟨by omega, by omega, cl⟩
      · rw [if_neg (fun q => c q.2)] at hr; omega
    · refine Or.inr (Or.inr (Or.inr (Or.inl ⟨k, ?_, cl⟩)))
      rw [k] at hr
      unfold rch at hr
      rw [if_neg (by decide), if_neg (by decide)] at hr
      by_cases c : d % 2 = 0
      · omega
      · rw [if_neg (fun q => c q.2), if_neg (by omega)] at hr; omega
    · refine Or.inr (Or.inr (Or.inr (Or.inr (Or.inl ⟨k, ?_, cl⟩))))
      omega
    · refine Or.inr (Or.inr (Or.inr (Or.inr (Or.inr ⟨k, ?_⟩))))
      rw [k] at hr
      unfold rch at hr
      rw [if_pos rfl] at hr
      omega
theorem pw_tab : ∀ s : Nat, s < 64 → ∀ x : Nat, x < 64 → ∀ e : Nat, e < 2 → ((shf (s : Int) (-1) (if e = 0 then 1 else -1) = (x : Int) ∨ shf (s : Int) 1 (if e = 0 then 1 else -1) = (x : Int)) ↔ (dfl s x = 1 ∧ (x : Int) / 8 - (s : Int) / 8 = (if e = 0 then 1 else -1))) := by decide +kernel
theorem own_pawn {v side : Int} (h0 : 0 ≤ v) (h1 : v ≤ 12) (hS : side = 0 ∨ side = 1) (hk : kd v = 1) (ho : sd v = side) : v = (if side = 0 then 1 else 7) := by
  unfold kd at hk
  unfold sd at ho
  rcases hS with e | e <;> subst e
  · rw [if_pos rfl]
    split at ho
    · omega
    · split at ho
      · split at hk <;> omega
      · omega
  · rw [if_neg (by decide)]
    split at ho
    · omega
    · split at ho
      · omega
      · split at hk <;> omega
theorem pw_att {b : Nat → Int} {side : Int} {s x : Nat} (hB : BR b) (hS : side = 0 ∨ side = 1) (hs : s < 64) (hx : x < 64) (hk : kd (b s) = 1) (ho : sd (b s) = side) : attR b s x ↔ (shf (s : Int) (-1) (fwd side) = (x : Int) ∨ shf (s : Int) 1 (fwd side) = (x : Int)) := by
  obtain ⟨b0, b1⟩ := hB s hs
  have hv := own_pawn b0 b1 hS hk ho
  have key : attR b s x ↔ dfl s x = 1 ∧ (x : Int) / 8 - (s : Int) / 8 = (if b s = 1 then 1 else -1) := by
    constructor
    · intro h
      rcases h with q | q | q | q | q | q
      · exact q.2
      all_goals (have := q.1; omega)
    · intro h; exact Or.inl ⟨hk, h⟩
  rw [key, hv]
  rcases hS with e | e <;> subst e
  · exact (pw_tab s hs x hx 0 (by omega)).symm
  · exact (pw_tab s hs x hx 1 (by omega)).symm
theorem psq_mt {b : Nat → Int} {side file : Int} {x : Nat} (hS : side = 0 ∨ side = 1) (hf0 : -1 ≤ file) (hf1 : file ≤ 7) (hF : fil b side file) (e : (x : Int) = psq side file) : b x = 0 ∧ 0 ≤ file ∧ (x : Int) = (if side = 0 then 40 else 16) + file := by
  unfold psq at e
  by_cases c : file = -1
  · rw [if_pos c] at e; omega
  · rw [if_neg c] at e
    refine ⟨?_, by omega, e⟩
    rcases hF with q | ⟨q, q1, q2, q3⟩ | ⟨q, q1, q2, q3⟩
    · omega
    · subst q
      rw [if_neg (by decide)] at e
      rw [show x = 16 + file.toNat by omega]; exact q2
    · subst q
      rw [if_pos rfl] at e
      rw [show x = 40 + file.toNat by omega]; exact q2
theorem psq_of {side file : Int} {x : Nat} (hf : 0 ≤ file) (e : (x : Int) = (if side = 0 then 40 else 16) + file) : (x : Int) = psq side file := by
  unfold psq; rw [if_neg (by omega)]; exact e
theorem sd_0 {side : Int} (hS : side = 0 ∨ side = 1) : sd 0 ≠ side := by
  have : sd 0 = -1 := by decide
  omega
theorem pcl_iff {side : Int} {s x : Nat} {c : Nat} (hS : side = 0 ∨ side = 1) (hs : 8 ≤ s ∧ s < 56) (hx : x < 64) (hc : c < 2) (hm : (x : Int) / 8 - (s : Int) / 8 = fwd side ∨ (x : Int) / 8 - (s : Int) / 8 = 2 * fwd side) (hm2 : (x : Int) / 8 - (s : Int) / 8 = 2 * fwd side → (s : Int) / 8 = (if side = 0 then 1 else 6)) : c = pcl x ↔ (lastR side x ↔ 0 < (c : Int)) := by
  have key : (x / 8 = 0 ∨ x / 8 = 7) ↔ lastR side x := by
    unfold lastR
    unfold fwd at hm hm2
    rcases hS with e | e <;> subst e
    · rw [if_pos rfl] at *; omega
    · rw [if_neg (by decide)] at *; omega
  unfold pcl
  rw [← key]
  by_cases q : x / 8 = 0 ∨ x / 8 = 7
  · rw [if_pos q]
    constructor
    · intro e; exact ⟨fun _ => by omega, fun _ => q⟩
    · intro e; have := e.mp q; omega
  · rw [if_neg q]
    constructor
    · intro e; exact ⟨fun z => absurd z q, fun z => by omega⟩
    · intro e
      by_cases z : c = 0
      · exact z
      · exact absurd (e.mpr (by omega)) q
theorem pmv_iff (h0 : jH) {s x c : Nat} (hs : s < 64) (hx : x < 64) (hc : c < 2) (hP : PosR (h0 3) (h0 2 1) (h0 2 2) (h0 2 3)) (ho : sd (h0 3 s) = h0 2 1) :
    pmv h0 s x c ↔ (sd (h0 3 x) ≠ h0 2 1 ∧ ((kd (h0 3 s) = 1 ∧ mpw (h0 3) (h0 2 1) (h0 2 3) s x (c : Int)) ∨ (kd (h0 3 s) ≠ 1 ∧ (c : Int) = 0 ∧ attR (h0 3) s x))) := by
  obtain ⟨hB, ⟨hS, hr0, hr1, hf0, hf1⟩, hK, hpw, hrg, hfl⟩ := hP
  obtain ⟨b0, b1⟩ := hB s hs
  have hk0 : kd (h0 3 s) ≠ 0 := by
    intro q
    have : h0 3 s = 0 := by unfold kd at q; split at q <;> omega
    rw [this] at ho
    exact sd_0 hS ho
  unfold pmv
  by_cases c1 : kd (h0 3 s) = 1
  · have hp8 := hpw s hs c1
    have att := pw_att hB hS hs hx c1 ho
    have har : ahd (h0 2 1) = 8 * fwd (h0 2 1) := by unfold ahd fwd; split <;> rfl
    have hfr : fwd (h0 2 1) = 1 ∨ fwd (h0 2 1) = -1 := by unfold fwd; split <;> omega
    have atr : attR (h0 3) s x → (x : Int) / 8 - (s : Int) / 8 = fwd (h0 2 1) ∧ dfl s x = 1 := by
      intro q
      have hv := own_pawn b0 b1 hS c1 ho
      rcases q with q | q | q | q | q | q
      · refine ⟨?_, q.2.1⟩
        rw [q.2.2, hv]; unfold fwd
        rcases hS with e | e <;> rw [e] <;> decide
      all_goals (have := q.1; omega)
    have nat1 : stp1 (h0 3) (h0 2 1) s x → ¬ attR (h0 3) s x := by
      intro q z
      have := (atr z).2
      have h1 := q.1
      have h2 := iab_cases ((x : Int) % 8 - (s : Int) % 8)
      unfold dfl at this
      omega
    have nat2 : stp2 (h0 3) (h0 2 1) s x → ¬ attR (h0 3) s x := by
      intro q z
      have := (atr z).2
      have h1 := q.2.1
      have h2 := iab_cases ((x : Int) % 8 - (s : Int) % 8)
      unfold dfl at this
      omega
    have rest : (kd (h0 3 s) = 2 ∧ c = 0 ∧ sd (h0 3 x) ≠ h0 2 1 ∧ ∃ d, d < 8 ∧ shf (s : Int) (KF d) (KR d) = (x : Int)) ∨ (kd (h0 3 s) ≠ 1 ∧ kd (h0 3 s) ≠ 2 ∧ c = 0 ∧ ∃ d, d < 8 ∧ rw1 (h0 3) (h0 2 1) s x d) ↔ False := by
      constructor
      · rintro (q | q)
        · omega
        · exact q.1 c1
      · exact False.elim
    rw [rest, or_false]
    clear rest
    have rest2 : (kd (h0 3 s) ≠ 1 ∧ (c : Int) = 0 ∧ attR (h0 3) s x) ↔ False := ⟨fun q => q.1 c1, False.elim⟩
    rw [rest2, or_false]
    clear rest2
    unfold mpw
    constructor
    · rintro ⟨-, hcp, (q | q) | q⟩
      · have e : (x : Int) / 8 - (s : Int) / 8 = fwd (h0 2 1) := by have := q.1; omega
        exact ⟨by rw [q.2]; exact sd_0 hS, c1, (pcl_iff hS hp8 hx hc (Or.inl e) (fun z => by omega)).mp hcp, Or.inr ⟨nat1 q, Or.inl q⟩⟩
      · have e : (x : Int) / 8 - (s : Int) / 8 = 2 * fwd (h0 2 1) := by have := q.2.1; omega
        exact ⟨by rw [q.2.2.1]; exact sd_0 hS, c1, (pcl_iff hS hp8 hx hc (Or.inr e) (fun _ => q.1)).mp hcp, Or.inr ⟨nat2 q, Or.inr q⟩⟩
      · have qa : attR (h0 3) s x := att.mpr (by rcases q with q | q; exact Or.inl q.1; exact Or.inr q.1)
        have qb : sd (h0 3 x) = 1 - h0 2 1 ∨ (x : Int) = psq (h0 2 1) (h0 2 3) := by rcases q with q | q; exact q.2; exact q.2
        refine ⟨?_, c1, (pcl_iff hS hp8 hx hc (Or.inl (atr qa).1) (fun z => by have := (atr qa).1; omega)).mp hcp, Or.inl ⟨qa, ?_⟩⟩
        · rcases qb with qb | qb
          · omega
          · rw [(psq_mt hS hf0 hf1 hfl qb).1]; exact sd_0 hS
        · rcases qb with qb | qb
          · exact Or.inl qb
          · obtain ⟨z1, z2, z3⟩ := psq_mt hS hf0 hf1 hfl qb
            exact Or.inr ⟨c1, z2, z3, qa⟩
    · rintro ⟨hn, -, hl, (⟨qa, qb⟩ | ⟨qa, qb | qb⟩)⟩
      · refine ⟨c1, (pcl_iff hS hp8 hx hc (Or.inl (atr qa).1) (fun z => by have := (atr qa).1; omega)).mpr hl, Or.inr ?_⟩
        have qc : sd (h0 3 x) = 1 - h0 2 1 ∨ (x : Int) = psq (h0 2 1) (h0 2 3) := by
          rcases qb with qb | qb
          · exact Or.inl qb
          · exact Or.inr (psq_of qb.2.1 qb.2.2.1)
        rcases att.mp qa with q | q
        · exact Or.inl ⟨q, qc⟩
        · exact Or.inr ⟨q, qc⟩
      · have e : (x : Int) / 8 - (s : Int) / 8 = fwd (h0 2 1) := by have := qb.1; omega
        exact ⟨c1, (pcl_iff hS hp8 hx hc (Or.inl e) (fun z => by omega)).mpr hl, Or.inl (Or.inl qb)⟩
      · have e : (x : Int) / 8 - (s : Int) / 8 = 2 * fwd (h0 2 1) := by have := qb.2.1; omega
        exact ⟨c1, (pcl_iff hS hp8 hx hc (Or.inr e) (fun _ => qb.1)).mpr hl, Or.inl (Or.inr qb)⟩
  · by_cases c2 : kd (h0 3 s) = 2
    · have att : attR (h0 3) s x ↔ ∃ d, d < 8 ∧ shf (s : Int) (KF d) (KR d) = (x : Int) := by
        rw [← leap_tab s hs x hx, dfl_sym x s, drk_sym x s]
        constructor
        · intro h
          rcases h with q | q | q | q | q | q
          · exact absurd q.1 c1
          · exact q.2
          all_goals (have := q.1; omega)
        · intro h; exact Or.inr (Or.inl ⟨c2, h⟩)
      constructor
      · rintro (q | q | q)
        · exact absurd q.1 c1
        · exact ⟨q.2.2.1, Or.inr ⟨c1, by have := q.2.1; omega, att.mpr q.2.2.2⟩⟩
        · exact absurd c2 q.2.1
      · rintro ⟨q1, q2 | q2⟩
        · exact absurd q2.1 c1
        · exact Or.inr (Or.inl ⟨c2, by have := q2.2.1; omega, q1, att.mp q2.2.2⟩)
    · have att := sl_iff hB hs hx c1 c2 hk0
      constructor
      · rintro (q | q | q)
        · exact absurd q.1 c1
        · exact absurd q.1 c2
        · obtain ⟨_, _, q3, d, d1, i, i1, i2, i3, i4⟩ := q
          exact ⟨i4, Or.inr ⟨c1, by omega, att.mpr ⟨d, d1, i, i1, i2, i3⟩⟩⟩
      · rintro ⟨q1, q2 | q2⟩
        · exact absurd q2.1 c1
        · obtain ⟨d, d1, i, i1, i2, i3⟩ := att.mp q2.2.2
          exact Or.inr (Or.inr ⟨c1, c2, by have := q2.2.1; omega, d, d1, i, i1, i2, i3, q1⟩)
