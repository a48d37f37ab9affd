/-! places: what fixes them -/
/-- a move of the group with linear part k fixes the place (P, Q), in sixths -/
def gr_fx (S : Int → Int → Int → Prop) (s k P Q : Int) : Prop := ∃ u v : Int, S k u v ∧ mt_x s k P Q + 6 * u = P ∧ mt_y s k P Q + 6 * v = Q
theorem gr_F_fx {h : pg_H} {s n : Int} {S : Int → Int → Int → Prop} (hD : gr_D h s n S) {k P Q : Int} (hk : 0 ≤ k ∧ k < 2 * mt_rd s) : sy_F h s k P Q ↔ gr_fx S s k P Q := by
  have hP := hD.2.2.1 k ((P - mt_x s k P Q) / 6) ((Q - mt_y s k P Q) / 6) hk
  constructor
  · rintro ⟨h1, h2, h3, h4⟩
    refine ⟨_, _, hP.mp ⟨h1, h4⟩, ?_, ?_⟩ <;> omega
  · rintro ⟨u, v, h1, h2, h3⟩
    have e1 : (P - mt_x s k P Q) / 6 = u := by omega
    have e2 : (Q - mt_y s k P Q) / 6 = v := by omega
    rw [e1, e2] at hP
    have h4 := hP.mpr h1
    refine ⟨h4.1, by omega, by omega, ?_⟩
    rw [e1, e2]
    exact h4.2
section
variable {col : Nat → Int} {s n : Int}
theorem gr_pm_iff (hn : 1 ≤ n ∧ n ≤ 12) {i : Nat} (hi : (i : Int) < 6 * n * (6 * n)) (m j : Int) (hj : 0 ≤ j ∧ j < 6 * n * (6 * n)) : mt_pm s n m i = j ↔ (mt_x s (m / (n * n)) ((i : Int) % (6 * n)) ((i : Int) / (6 * n)) + 6 * (m / n % n)) % (6 * n) = j % (6 * n) ∧ (mt_y s (m / (n * n)) ((i : Int) % (6 * n)) ((i : Int) / (6 * n)) + 6 * (m % n)) % (6 * n) = j / (6 * n) := by
  have a : ∀ z : Int, 0 ≤ z % (6 * n) ∧ z % (6 * n) < 6 * n := fun z => mt_mod (by omega) z
  have hp : mt_pt (6 * n) (j % (6 * n)) (j / (6 * n)) = j := mt_pt_of (by omega)
  unfold mt_pm mt_pl mt_tg
  constructor
  · intro h
    rw [← hp] at h
    have h2 := mt_pt_inj (a _) (a _) h
    exact h2
  · rintro ⟨h1, h2⟩
    rw [h1, h2]
    exact hp
theorem gr_pm_fx (hs : s = 0 ∨ s = 1) (hn : 1 ≤ n ∧ n ≤ 12) {i m : Nat} (hi : (i : Int) < 6 * n * (6 * n)) (h1 : mt_sm col s n m) (h2 : mt_pm s n m i = i) : gr_fx (mt_sym col s n) s ((m : Int) / (n * n)) ((i : Int) % (6 * n)) ((i : Int) / (6 * n)) := by
  have h3 := (gr_pm_iff hn hi m i ⟨by omega, hi⟩).mp h2
  have hG := gr_sym_G col hs hn.1
  generalize (i : Int) % (6 * n) = P at *
  generalize (i : Int) / (6 * n) = Q at *
  have e1 := Int.emod_add_mul_ediv (mt_x s ((m : Int) / (n * n)) P Q + 6 * ((m : Int) / n % n)) (6 * n)
  have e2 := Int.emod_add_mul_ediv (mt_y s ((m : Int) / (n * n)) P Q + 6 * ((m : Int) % n)) (6 * n)
  rw [h3.1] at e1
  rw [h3.2] at e2
  generalize (mt_x s ((m : Int) / (n * n)) P Q + 6 * ((m : Int) / n % n)) / (6 * n) = a at *
  generalize (mt_y s ((m : Int) / (n * n)) P Q + 6 * ((m : Int) % n)) / (6 * n) = b at *
  refine ⟨(m : Int) / n % n + n * (-a), (m : Int) % n + n * (-b), hG.2.2.2 _ _ _ _ _ h1, ?_, ?_⟩
  · rw [Int.mul_assoc] at e1
    rw [Int.mul_neg]
    omega
  · rw [Int.mul_assoc] at e2
    rw [Int.mul_neg]
    omega
theorem gr_fx_pm (hs : s = 0 ∨ s = 1) (hn : 1 ≤ n ∧ n ≤ 12) {i : Nat} {k : Int} (hk : 0 ≤ k ∧ k < 2 * mt_rd s) (hi : (i : Int) < 6 * n * (6 * n)) (h : gr_fx (mt_sym col s n) s k ((i : Int) % (6 * n)) ((i : Int) / (6 * n))) : ∃ m : Nat, m < (2 * mt_rd s * (n * n)).toNat ∧ mt_sm col s n m ∧ mt_pm s n m i = i ∧ (m : Int) / (n * n) = k := by
  obtain ⟨u, v, h1, h2, h3⟩ := h
  have hcd := mt_cd_k (n := n) (k := k) (u := u) (v := v) hn
  have hcb := mt_cdb (s := s) (u := u) (v := v) hn hk
  have e : (((mt_cd n k u v).toNat : Nat) : Int) = mt_cd n k u v := by omega
  have h6 := mt_6s hn.1 (i := (i : Int)) ⟨by omega, hi⟩
  refine ⟨(mt_cd n k u v).toNat, by omega, ?_, ?_, by rw [e]; exact hcd.1⟩
  · unfold mt_sm
    rw [e, hcd.1, hcd.2.1, hcd.2.2]
    exact (gr_sym_mod hn.1 (Int.emod_emod _ _) (Int.emod_emod _ _)).mpr h1
  · rw [gr_pm_iff hn hi _ _ ⟨by omega, hi⟩, e, hcd.1, hcd.2.1, hcd.2.2]
    have em : ∀ w z : Int, (w + 6 * (z % n)) % (6 * n) = (w + 6 * z) % (6 * n) := by
      intro w z
      have h7 := Int.emod_add_mul_ediv z n
      generalize z / n = q at *
      generalize z % n = r at *
      rw [← h7, Int.mul_add, ← Int.mul_assoc, ← Int.add_assoc, Int.add_mul_emod_self_left]
    rw [em, em, h2, h3, Int.emod_eq_of_lt h6.1.1 h6.1.2, Int.emod_eq_of_lt h6.2.1.1 h6.2.1.2]
    exact ⟨rfl, rfl⟩
theorem gr_fk (hs : s = 0 ∨ s = 1) (hn : 1 ≤ n ∧ n ≤ 12) {i k : Nat} (hk : (k : Int) < 2 * mt_rd s) (hi : (i : Int) < 6 * n * (6 * n)) : mt_fk col s n i k ↔ gr_fx (mt_sym col s n) s k ((i : Int) % (6 * n)) ((i : Int) / (6 * n)) := by
  constructor
  · rintro ⟨m, m1, m2, m3, m4⟩
    rw [← m4]
    exact gr_pm_fx hs hn hi m2 m3
  · intro h
    obtain ⟨m, m1, m2, m3, m4⟩ := gr_fx_pm hs hn ⟨by omega, hk⟩ hi h
    exact ⟨m, m1, m2, m3, m4⟩
/-- turns at a place, by linear parts -/
theorem gr_tu (hs : s = 0 ∨ s = 1) (hn : 1 ≤ n ∧ n ≤ 12) {i : Nat} (hi : (i : Int) < 6 * n * (6 * n)) : mt_tu col s n i = pg_cn (fun k => gr_fx (mt_sym col s n) s k ((i : Int) % (6 * n)) ((i : Int) / (6 * n))) (mt_rd s).toNat := by
  have hr := mt_rd_or hs
  have hN := mt_2rn hs hn
  have hkb : ∀ m : Nat, m < (2 * mt_rd s * (n * n)).toNat → 0 ≤ (m : Int) / (n * n) ∧ (m : Int) / (n * n) < 2 * mt_rd s := fun m hm => mt_kof hn.1 (by omega)
  refine Int.le_antisymm ?_ ?_
  · refine pg_cn_inj (f := fun m => ((m : Int) / (n * n)).toNat) (fun m hm hp => ?_) (fun x y hx hy p q e => ?_)
    · have h1 := hkb m hm
      have h2 := hp.2.2
      refine ⟨by show ((m : Int) / (n * n)).toNat < _; omega, ?_⟩
      show gr_fx _ _ ((((m : Int) / (n * n)).toNat : Nat) : Int) _ _
      rw [show ((((m : Int) / (n * n)).toNat : Nat) : Int) = (m : Int) / (n * n) by omega]
      exact gr_pm_fx hs hn hi hp.1 hp.2.1
    · have h1 := hkb x hx
      have h2 := hkb y hy
      have e1 : ((x : Int) / (n * n)).toNat = ((y : Int) / (n * n)).toNat := e
      exact mt_fix_u hn p.2.1 q.2.1 (by omega)
  · refine pg_cn_sur (f := fun m => ((m : Int) / (n * n)).toNat) (fun k hk hp => ?_)
    obtain ⟨m, m1, m2, m3, m4⟩ := gr_fx_pm hs hn (show 0 ≤ (k : Int) ∧ (k : Int) < 2 * mt_rd s by omega) hi hp
    refine ⟨m, m1, ⟨m2, m3, by omega⟩, ?_⟩
    show ((m : Int) / (n * n)).toNat = k
    omega
theorem gr_mi (hs : s = 0 ∨ s = 1) (hn : 1 ≤ n ∧ n ≤ 12) {i : Nat} (hi : (i : Int) < 6 * n * (6 * n)) : mt_mi col s n i = pg_cn (fun k => gr_fx (mt_sym col s n) s (mt_rd s + k) ((i : Int) % (6 * n)) ((i : Int) / (6 * n))) (mt_rd s).toNat := by
  have hr := mt_rd_or hs
  have hN := mt_2rn hs hn
  have hkb : ∀ m : Nat, m < (2 * mt_rd s * (n * n)).toNat → 0 ≤ (m : Int) / (n * n) ∧ (m : Int) / (n * n) < 2 * mt_rd s := fun m hm => mt_kof hn.1 (by omega)
  refine Int.le_antisymm ?_ ?_
  · refine pg_cn_inj (f := fun m => ((m : Int) / (n * n) - mt_rd s).toNat) (fun m hm hp => ?_) (fun x y hx hy p q e => ?_)
    · have h1 := hkb m hm
      have h2 := hp.2.2
      refine ⟨by show ((m : Int) / (n * n) - mt_rd s).toNat < _; omega, ?_⟩
      show gr_fx _ _ (mt_rd s + ((((m : Int) / (n * n) - mt_rd s).toNat : Nat) : Int)) _ _
      rw [show mt_rd s + ((((m : Int) / (n * n) - mt_rd s).toNat : Nat) : Int) = (m : Int) / (n * n) by omega]
      exact gr_pm_fx hs hn hi hp.1 hp.2.1
    · have h1 := hkb x hx
      have h2 := hkb y hy
      have h3 := p.2.2
      have h4 := q.2.2
      have e1 : ((x : Int) / (n * n) - mt_rd s).toNat = ((y : Int) / (n * n) - mt_rd s).toNat := e
      exact mt_fix_u hn p.2.1 q.2.1 (by omega)
  · refine pg_cn_sur (f := fun m => ((m : Int) / (n * n) - mt_rd s).toNat) (fun k hk hp => ?_)
    obtain ⟨m, m1, m2, m3, m4⟩ := gr_fx_pm hs hn (show 0 ≤ mt_rd s + (k : Int) ∧ mt_rd s + (k : Int) < 2 * mt_rd s by omega) hi hp
    refine ⟨m, m1, ⟨m2, m3, by omega⟩, ?_⟩
    show ((m : Int) / (n * n) - mt_rd s).toNat = k
    omega
/-- place: both the same -/
theorem gr_place {h : pg_H} (hs : s = 0 ∨ s = 1) (hn : 1 ≤ n ∧ n ≤ 12) (hD : gr_D h s n (mt_sym col s n)) {P Q : Int} (hP : 0 ≤ P ∧ P < 6 * n) (hQ : 0 ≤ Q ∧ Q < 6 * n) : pg_cn (fun k => sy_F h s k P Q) (mt_rd s).toNat = mt_tu col s n (6 * n * Q + P).toNat ∧ pg_cn (fun k => sy_F h s (mt_rd s + k) P Q) (mt_rd s).toNat = mt_mi col s n (6 * n * Q + P).toNat := by
  have hr := mt_rd_or hs
  have h6 := mt_6q hn.1 hn.2 hQ
  have hb : 6 * n * Q + P < 6 * n * (6 * n) := by
    have c := Int.mul_le_mul_of_nonneg_left (show Q ≤ 6 * n - 1 by omega) (show 0 ≤ 6 * n by omega)
    rw [Int.mul_sub] at c
    omega
  have e : (((6 * n * Q + P).toNat : Nat) : Int) = 6 * n * Q + P := by omega
  have hd := mt_dm (u := Q) (n := 6 * n) (by omega) hP
  rw [Int.mul_comm Q] at hd
  rw [gr_tu hs hn (by omega), gr_mi hs hn (by omega), e, hd.1, hd.2]
  exact ⟨pg_cn_iff (fun k hk => gr_F_fx hD (by omega)), pg_cn_iff (fun k hk => gr_F_fx hD (by omega))⟩
end
