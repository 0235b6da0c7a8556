/-! a legal move leads from a good position to a good one -/
theorem sd_own {side : Int} (hS : side = 0 ∨ side = 1) {c : Nat} (h1 : 1 ≤ c) (h2 : c ≤ 5) : sd ((c : Int) + 6 * side) = side ∧ kd ((c : Int) + 6 * side) = (c : Int) := by
  have hc : c = 1 ∨ c = 2 ∨ c = 3 ∨ c = 4 ∨ c = 5 := by omega
  rcases hS with e | e <;> subst e <;> rcases hc with e | e | e | e | e <;> subst e <;> decide
theorem kp_6 {side : Int} (hS : side = 0 ∨ side = 1) : kd (kp side) = 6 ∧ kp side ≠ 0 := by rcases hS with e | e <;> subst e <;> decide
set_option maxHeartbeats 8000000 in
theorem pres {b : Nat → Int} {side rights file : Int} {f x c v : Nat} (hG : G5 b side rights file) (hf : f < 64) (hx : x < 64) (hc4 : c ≤ 4) (hl : lgl b side rights file f x (c : Int)) (hv : vicR b side file f x v) :
    G5 (nbv b side f x c v) (1 - side) (nr rights f x) (nf b f x) := by
  obtain ⟨hP, hna⟩ := hG
  have hP0 := hP
  obtain ⟨hB, ⟨hS, hr0, hr1, hf0, hf1⟩, hK, hpw, hrg, hfl⟩ := hP
  have hl0 := hl
  obtain ⟨hmg, hsf⟩ := hl
  have hS' := (side_sub hS).2
  have ho := hmg.1
  have hn := hmg.2.1
  have hfx : f ≠ x := fun e => hn (e ▸ ho)
  obtain ⟨k, hk⟩ := kgs_uk hK hS
  obtain ⟨k', hk'⟩ := kgs_uk hK hS'
  have hcs : csh b f x → cas b side rights f x := csh_cas hf hx hmg
  have hcm : csh b f x → (f = 4 ∨ f = 60) ∧ f = kh side ∧ (x = f + 2 ∨ f = x + 2) ∧ b x = 0 ∧ b ((f + x) / 2) = 0 ∧ b f = kp side ∧ b (crk f x) = 4 + 6 * side := fun q => cas_mt hP0 hf (hcs q)
  have cases := fun y => nbv_cases (side := side) (c := c) (v := v) (b := b) y hfx (fun q => (hcm q).1)
  have hvm := vic_mt hS hB hf hx hf1 hfl ho hv
  have hvp : v = x ∨ (v ≠ x ∧ v ≠ f ∧ b v = (if side = 0 then 7 else 1)) := by
    rcases hvm with q | q
    · exact Or.inl q
    · exact Or.inr ⟨q.2.1, q.2.2.1, q.2.2.2.1⟩
  have hvk : ∀ y, y = v → y ≠ x → kd (b y) = 1 := by
    intro y e hne
    rcases hvp with q | q
    · exact absurd (e.trans q) hne
    · rw [e, q.2.2]; rcases hS with g | g <;> subst g <;> decide
  have hcp : 0 < c → sd ((c : Int) + 1 + 6 * side) = side ∧ kd ((c : Int) + 1 + 6 * side) = (c : Int) + 1 := by
    intro q
    have := sd_own hS (c := c + 1) (by omega) (by omega)
    rw [show (((c + 1 : Nat) : Int)) = (c : Int) + 1 by omega] at this
    exact this
  have hrook : sd (4 + 6 * side) = side ∧ kd (4 + 6 * side) = 4 := sd_own hS (c := 4) (by omega) (by omega)
  have s0 : sd 0 = -1 := by decide
  -- the man that moved
  have hnx : nbv b side f x c v x = (if 0 < c then (c : Int) + 1 + 6 * side else b f) := by
    rcases cases x with q | q | q | q | q | q
    · exact q.2
    · exact absurd q.1.symm hfx
    · exact absurd rfl q.2.1
    · exfalso
      have := (hcm q.1).2.2.1
      have := q.2.1
      omega
    · exact absurd rfl q.2.2.2.1
    · exact absurd rfl q.1
  have hnxo : sd (if 0 < c then (c : Int) + 1 + 6 * side else b f) = side := by
    split
    · rename_i q; exact (hcp q).1
    · exact ho
  -- the other king isn't taken
  have hk'x : k' ≠ x := by
    intro e
    have hbx : b x = kp (1 - side) := by rw [← e]; exact hk'.2.1
    have nz := (kp_6 hS').2
    have att : ¬ attR b f x := by
      intro q
      apply hna k' hk'
      rw [e]
      exact (atd_iff hB hx hS).mpr ⟨f, hf, ho, q⟩
    rcases hmg.2.2 with ⟨_, q⟩ | ⟨_, _, q | q⟩
    · rcases q.2 with q | ⟨_, q | q⟩
      · exact att q.1
      · exact nz (by rw [← hbx]; exact q.2)
      · exact nz (by rw [← hbx]; exact q.2.2.1)
    · exact att q
    · exact nz (by rw [← hbx]; exact (cas_mt hP0 hf q.2).2.2.2.1)
  have huO : uk (nbv b side f x c v) side (kmv k f x) := by
    unfold kmv
    by_cases e : f = k
    · rw [if_pos e]
      have hbf : b f = kp side := by rw [e]; exact hk.2.1
      have hc0 : ¬ 0 < c := by
        rcases hmg.2.2 with ⟨q, _⟩ | ⟨_, q, _⟩
        · rw [hbf, (kp_6 hS).1] at q; omega
        · omega
      refine ⟨hx, by rw [hnx, if_neg hc0]; exact hbf, fun y hy hyk => ?_⟩
      rcases cases y with q | q | q | q | q | q
      · exact q.1
      · rw [q.2] at hyk; exact absurd hyk.symm (kp_6 hS).2
      · rw [q.2.2.2] at hyk; exact absurd hyk.symm (kp_6 hS).2
      · rw [q.2.2] at hyk; rw [hyk] at hrook; rw [(kp_6 hS).1] at hrook; omega
      · rw [q.2.2.2.2] at hyk; exact absurd hyk.symm (kp_6 hS).2
      · rw [q.2.2.2.2] at hyk; exact absurd ((hk.2.2 y hy hyk).trans e.symm) q.2.1
    · rw [if_neg e]
      have hkx : k ≠ x := fun z => hn (by rw [← z, hk.2.1]; exact sd_kp hS)
      have hkv : k = v → False := fun z => by
        have := hvk k z hkx
        rw [hk.2.1, (kp_6 hS).1] at this; omega
      have hncs : ¬ csh b f x := fun z => e (hk.2.2 f hf (hcm z).2.2.2.2.2.1)
      have hnk : nbv b side f x c v k = kp side := by
        rcases cases k with q | q | q | q | q | q
        · exact absurd q.1 hkx
        · exact absurd q.1.symm e
        · exact absurd q.1 hkv
        · exact absurd q.1 hncs
        · exact absurd q.1 hncs
        · rw [q.2.2.2.2]; exact hk.2.1
      refine ⟨hk.1, hnk, fun y hy hyk => ?_⟩
      rcases cases y with q | q | q | q | q | q
      · exfalso
        rw [q.2] at hyk
        by_cases h0 : 0 < c
        · rw [if_pos h0] at hyk
          have := (hcp h0).2
          rw [hyk, (kp_6 hS).1] at this
          omega
        · rw [if_neg h0] at hyk
          exact e (hk.2.2 f hf hyk)
      · rw [q.2] at hyk; exact absurd hyk.symm (kp_6 hS).2
      · rw [q.2.2.2] at hyk; exact absurd hyk.symm (kp_6 hS).2
      · exact absurd q.1 hncs
      · exact absurd q.1 hncs
      · rw [q.2.2.2.2] at hyk; exact hk.2.2 y hy hyk
  have huE : uk (nbv b side f x c v) (1 - side) k' := by
    have hsk : sd (b k') = 1 - side := by rw [hk'.2.1]; exact sd_kp hS'
    have hnk : nbv b side f x c v k' = kp (1 - side) := by
      rcases cases k' with q | q | q | q | q | q
      · exact absurd q.1 hk'x
      · rw [q.1, ho] at hsk; omega
      · have := hvk k' q.1 q.2.1
        rw [hk'.2.1, (kp_6 hS').1] at this; omega
      · have := (hcm q.1).2.2.2.2.1
        rw [q.2.1, this, s0] at hsk; omega
      · have := (hcm q.1).2.2.2.2.2.2
        rw [q.2.1, this, hrook.1] at hsk; omega
      · rw [q.2.2.2.2]; exact hk'.2.1
    refine ⟨hk'.1, hnk, fun y hy hyk => ?_⟩
    have hsy : sd (nbv b side f x c v y) = 1 - side := by rw [hyk]; exact sd_kp hS'
    rcases cases y with q | q | q | q | q | q
    · rw [q.2, hnxo] at hsy; omega
    · rw [q.2, s0] at hsy; omega
    · rw [q.2.2.2, s0] at hsy; omega
    · rw [q.2.2, hrook.1] at hsy; omega
    · rw [q.2.2.2.2, s0] at hsy; omega
    · rw [q.2.2.2.2] at hyk; exact hk'.2.2 y hy hyk
  have hBN : BR (nbv b side f x c v) := by
    intro y hy
    rcases cases y with q | q | q | q | q | q
    · rw [q.2]
      split
      · omega
      · exact hB f hf
    · rw [q.2]; decide
    · rw [q.2.2.2]; decide
    · rw [q.2.2]; omega
    · rw [q.2.2.2.2]; decide
    · rw [q.2.2.2.2]; exact hB y hy
  have hKN : Kgs (nbv b side f x c v) := by
    rcases hS with g | g
    · subst g; exact ⟨⟨_, huO⟩, ⟨_, huE⟩⟩
    · subst g; exact ⟨⟨_, huE⟩, ⟨_, huO⟩⟩
  have hpwN : pwn (nbv b side f x c v) := by
    intro y hy hk1
    have z0 : kd 0 = 0 := by decide
    rcases cases y with q | q | q | q | q | q
    · rw [q.2] at hk1
      by_cases h0 : 0 < c
      · rw [if_pos h0, (hcp h0).2] at hk1; omega
      · rw [if_neg h0] at hk1
        have : ¬ (x < 8 ∨ 55 < x) := by
          intro z
          have hc0 : c = 0 := by omega
          subst hc0
          exact lg_f1 hP0 hf hx hk1 z hl0
        omega
    · rw [q.2, z0] at hk1; omega
    · rw [q.2.2.2, z0] at hk1; omega
    · rw [q.2.2, hrook.2] at hk1; omega
    · rw [q.2.2.2.2, z0] at hk1; omega
    · rw [q.2.2.2.2] at hk1; exact hpw y hy hk1
  obtain ⟨n0, n1, nrb⟩ := nr_ok hr0 hr1 f x
  have hrgN : rgt (nbv b side f x c v) (nr rights f x) := by
    intro i hi hb
    obtain ⟨h1, h2, h3⟩ := (nrb i hi).mp hb
    obtain ⟨a1, a2⟩ := home_tab f hf i hi h2
    obtain ⟨c1, c2⟩ := home_tab x hx i hi h3
    obtain ⟨r1, r2⟩ := hrg i hi h1
    have hmi : hm i = 0 ∨ hm i = 56 := by unfold hm; split <;> omega
    have hci : (6 + hc i = kp 0 ∨ 6 + hc i = kp 1) ∧ (4 + hc i = 4 ∨ 4 + hc i = 10) := by unfold hc; split <;> decide
    have keep : ∀ y, y ≠ f → y ≠ x → kd (b y) ≠ 1 → (csh b f x → y ≠ (f + x) / 2 ∧ y ≠ crk f x) → nbv b side f x c v y = b y := by
      intro y y1 y2 y3 y4
      rcases cases y with q | q | q | q | q | q
      · exact absurd q.1 y2
      · exact absurd q.1 y1
      · exact absurd (hvk y q.1 q.2.1) y3
      · exact absurd q.2.1 (y4 q.1).1
      · exact absurd q.2.1 (y4 q.1).2
      · exact q.2.2.2.2
    have k6 : kd (b (hm i + 4)) ≠ 1 := by
      rw [r1]
      rcases hci.1 with z | z <;> rw [z] <;> decide
    have k4 : kd (b (hm i + (if i % 2 = 0 then 7 else 0))) ≠ 1 := by
      rw [r2]
      rcases hci.2 with z | z <;> rw [z] <;> decide
    have hw : (if i % 2 = 0 then 7 else 0 : Nat) = 7 ∨ (if i % 2 = 0 then 7 else 0 : Nat) = 0 := by split <;> omega
    have hcr : csh b f x → crk f x = f - 4 ∨ crk f x = f + 3 := fun _ => by unfold crk; split <;> omega
    refine ⟨?_, ?_⟩
    · rw [keep _ (Ne.symm a1) (Ne.symm c1) k6 (fun q => by have := hcm q; have := hcr q; omega)]; exact r1
    · rw [keep _ (Ne.symm a2) (Ne.symm c2) k4 (fun q => by have := hcm q; have := hcr q; omega)]; exact r2
  have hflN : fil (nbv b side f x c v) (1 - side) (nf b f x) := by
    unfold nf
    by_cases d : kd (b f) = 1 ∧ (x = f + 16 ∨ f = x + 16)
    · rw [if_pos d]
      have hmp : mpw b side file f x (c : Int) := by
        rcases hmg.2.2 with q | q
        · exact q.2
        · exact absurd d.1 q.1
      have hdir := pw_dir hB hS hf ho d.1 hmp
      have har : ahd side = 8 * fwd side := by unfold ahd fwd; split <;> rfl
      have hfr : fwd side = 1 ∨ fwd side = -1 := by unfold fwd; split <;> omega
      have h2 : stp2 b side f x := by
        rcases hdir with ⟨q1, q2 | q2⟩ | q
        · omega
        · have := q2.1; omega
        · exact q.2
      have nat : ¬ attR b f x := by
        rcases hmp.2 with q | q
        · intro _
          have hd2 : (x : Int) / 8 - (f : Int) / 8 = 2 * fwd side := by have := h2.2.1; omega
          rcases hdir with ⟨q1, _⟩ | ⟨q1, _⟩
          · omega
          · have ha := q.1
            have hv1 := own_pawn (hB f hf).1 (hB f hf).2 hS d.1 ho
            rcases ha with z | z | z | z | z | z
            · have z2 := z.2.2
              split at z2 <;> omega
            all_goals (have := z.1; omega)
        · exact q.1
      have hvx : v = x := by
        rcases hv with q | q
        · exact absurd q.1.2.2.2 nat
        · exact q.2
      have hl2 := h2.1
      have hx2 := h2.2.1
      have hc0 : ¬ 0 < c := by
        intro z
        have := hmp.1.mpr (by omega)
        unfold lastR at this
        unfold ahd at hx2
        rcases hS with g | g <;> subst g
        · rw [if_pos rfl] at this hl2 hx2; omega
        · rw [if_neg (by decide)] at this hl2 hx2; omega
      have hncs : ¬ csh b f x := fun z => by have := z.1; omega
      have hnf : nbv b side f x c v f = 0 := by
        rcases cases f with q | q | q | q | q | q
        · exact absurd q.1 hfx
        · exact q.2
        · exact absurd rfl q.2.2.1
        · exact absurd q.1 hncs
        · exact absurd q.1 hncs
        · exact absurd rfl q.2.1
      have hnm : nbv b side f x c v ((f : Int) + ahd side).toNat = 0 := by
        rcases cases ((f : Int) + ahd side).toNat with q | q | q | q | q | q
        · exfalso; have := q.1; omega
        · exact q.2
        · exact q.2.2.2
        · exact absurd q.1 hncs
        · exact absurd q.1 hncs
        · rw [q.2.2.2.2]; exact h2.2.2.2
      have hbf := own_pawn (hB f hf).1 (hB f hf).2 hS d.1 ho
      rw [if_neg hc0] at hnx
      unfold ahd at hx2 hnm
      unfold fil
      rcases hS with g | g <;> subst g
      · rw [if_pos rfl] at hl2 hx2 hnm hbf
        refine Or.inr (Or.inl ⟨by decide, ?_, ?_, ?_⟩)
        · rw [show 24 + ((f % 8 : Nat) : Int).toNat = x by omega, hnx]; exact hbf
        · rw [show 16 + ((f % 8 : Nat) : Int).toNat = ((f : Int) + 8).toNat by omega]; exact hnm
        · rw [show 8 + ((f % 8 : Nat) : Int).toNat = f by omega]; exact hnf
      · rw [if_neg (by decide)] at hl2 hx2 hnm hbf
        refine Or.inr (Or.inr ⟨by decide, ?_, ?_, ?_⟩)
        · rw [show 32 + ((f % 8 : Nat) : Int).toNat = x by omega, hnx]; exact hbf
        · rw [show 40 + ((f % 8 : Nat) : Int).toNat = ((f : Int) + -8).toNat by omega]; exact hnm
        · rw [show 48 + ((f % 8 : Nat) : Int).toNat = f by omega]; exact hnf
    · rw [if_neg d]; exact Or.inl (by decide)
  have hnfr : -1 ≤ nf b f x ∧ nf b f x ≤ 7 := by unfold nf; split <;> omega
  refine ⟨⟨hBN, ⟨hS', n0, n1, hnfr.1, hnfr.2⟩, hKN, hpwN, hrgN, hflN⟩, fun K hKu hat => ?_⟩
  rw [show 1 - (1 - side) = side by omega] at hKu
  have eK := uk_one hKu huO
  subst eK
  have hK64 := huO.1
  apply hsf k v hk hv
  rw [atd_iff hBN hK64 hS'] at hat
  rw [atd_iff (BR_mv hB hf) hK64 hS']
  obtain ⟨s, s1, s2, s3⟩ := hat
  have hs6 : s ≠ x ∧ s ≠ f ∧ s ≠ v ∧ nbv b side f x c v s = b s := by
    rcases cases s with q | q | q | q | q | q
    · rw [q.2, hnxo] at s2; omega
    · rw [q.2, s0] at s2; omega
    · rw [q.2.2.2, s0] at s2; omega
    · rw [q.2.2, hrook.1] at s2; omega
    · rw [q.2.2.2.2, s0] at s2; omega
    · exact ⟨q.1, q.2.1, q.2.2.1, q.2.2.2.2⟩
  have em : mvb b f x v s = nbv b side f x c v s := by
    unfold mvb
    rw [if_neg hs6.1, if_neg hs6.2.1, if_neg hs6.2.2.1, hs6.2.2.2]
  refine ⟨s, s1, by rw [em]; exact s2, attR_sub2 s1 hK64 em (fun y y1 y2 y3 y4 y5 => ?_) s3⟩
  unfold mvb
  rcases cases y with q | q | q | q | q | q
  · exfalso
    rw [q.2] at y5
    rw [y5, s0] at hnxo
    omega
  · rw [if_neg (by omega), if_pos q.1]
  · rw [if_neg q.2.1, if_neg q.2.2.1, if_pos q.1]
  · rw [q.2.2] at y5; omega
  · exfalso
    have h4 := (hcm q.1).1
    have := q.2.1
    unfold crk at this
    split at this <;> omega
  · rw [if_neg q.1, if_neg q.2.1, if_neg q.2.2.1, ← q.2.2.2.2]; exact y5
