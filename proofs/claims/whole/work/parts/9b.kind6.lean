/-! kinds: both the same -/
section
variable {h : pg_H} {col : Nat → Int} {s n : Int}
theorem pg_cn_two {P : Nat → Prop} {m : Nat} : 2 ≤ pg_cn P m ↔ ∃ i j, i < j ∧ j < m ∧ P i ∧ P j := by
  constructor
  · intro h2
    obtain ⟨i, i1, i2, i3⟩ := pg_cn_ex (P := P) (m := m) (i := 0) (by decide) (by omega)
    obtain ⟨j, j1, j2, j3⟩ := pg_cn_ex (P := P) (m := m) (i := 1) (by decide) (by omega)
    rcases Nat.lt_trichotomy i j with h | h | h
    · exact ⟨i, j, h, j1, i2, j2⟩
    · rw [h] at i3; omega
    · have := pg_cn_lt2 h j2; omega
  · rintro ⟨i, j, h1, h2, h3, h4⟩
    have a := pg_cn_lt2 h1 h3
    have b := pg_cn_lt2 h2 h4
    have c := pg_cn_bd P i
    omega
/-- such places -/
def gr_pc (S : Int → Int → Int → Prop) (s r : Int) : Prop := ∃ P Q : Int, gr_t S s P Q = r ∧ ¬ 0 < gr_m S s P Q
def gr_pk (S : Int → Int → Int → Prop) (s r : Int) : Prop := ∃ P Q : Int, gr_t S s P Q = r ∧ 0 < gr_m S s P Q
def gr_pm (S : Int → Int → Int → Prop) (s : Int) : Prop := ∃ P Q : Int, 0 < gr_m S s P Q
def gr_p1 (S : Int → Int → Int → Prop) (k : Int) : Prop := ∃ u v : Int, S k u v
/-- two directions of mirrors, no turns but half ones: they meet -/
theorem gr_meet {S : Int → Int → Int → Prop} (hs : s = 0 ∨ s = 1) (hG : gr_G s n S) (hmx : ∀ P Q : Int, gr_t S s P Q ≤ 2) {k j P Q P' Q' : Int} (hk : mt_rd s ≤ k ∧ k < 2 * mt_rd s) (hj : mt_rd s ≤ j ∧ j < 2 * mt_rd s) (hne : k ≠ j) (h1 : gr_fx S s k P Q) (h2 : gr_fx S s j P' Q') : ∃ X Y : Int, gr_t S s X Y = 2 ∧ 0 < gr_m S s X Y := by
  have hr := mt_rd_or hs
  have hk0 : 0 ≤ k ∧ k < 2 * mt_rd s := by omega
  have hj0 : 0 ≤ j ∧ j < 2 * mt_rd s := by omega
  obtain ⟨u, v, a1, a2, a3⟩ := h1
  obtain ⟨x, y, b1, b2, b3⟩ := h2
  have h3 := hG.2.1 _ _ _ _ _ _ hk0 hj0 a1 b1
  have hb := mt_lp_bd hs hk0 hj0
  have hlt : mt_lp s k j < mt_rd s := (gr_cjb hs hk0 hj0).2.2.2.mpr (by omega)
  have hpos : 0 < mt_lp s k j := by
    rcases (show mt_lp s k j = 0 ∨ 0 < mt_lp s k j by omega) with h0 | h0
    · exfalso
      have h4 := (mt_li_i hs hk0 hj0).mp h0
      have h5 := gr_sq0 ⟨s.toNat, by omega⟩ ⟨k.toNat, by omega⟩
      simp only at h5
      rw [show ((s.toNat : Nat) : Int) = s by omega, show ((k.toNat : Nat) : Int) = k by omega] at h5
      rw [h5 hk.1 hk.2] at h4
      omega
    · exact h0
  have hhalf : mt_lp s k j = gr_hf s := by
    rcases Classical.em (mt_lp s k j = gr_hf s) with h4 | h4
    · exact h4
    · exfalso
      obtain ⟨P1, Q1, h5⟩ := (gr_rot hs hG ⟨hpos, hlt⟩ h3).2 h4
      have := hmx P1 Q1
      omega
  have hneg : ∀ x y : Int, mt_x s j x y = -mt_x s k x y ∧ mt_y s j x y = -mt_y s k x y := by
    intro x y
    have e1 := gr_lp hs hk0 hj0 x y
    rw [hhalf, (gr_hfx hs x y).1, (gr_hfx hs x y).2] at e1
    have e2 := gr_inv2 hs hk (mt_x s j x y) (mt_y s j x y)
    rw [← e1.1, ← e1.2, (gr_neg s k x y).1, (gr_neg s k x y).2] at e2
    omega
  obtain ⟨X, Y, c1, c2⟩ := gr_m2 hs hG hk hj hneg ⟨u, v, a1, a2, a3⟩ ⟨x, y, b1, b2, b3⟩
  have hm := gr_fx_m hs hk c1
  have hmt := gr_mt hs hG hm
  refine ⟨X, Y, ?_, hm⟩
  have h6 := hmx X Y
  have h7 : 2 ≤ gr_m S s X Y := by
    rcases (show k < j ∨ j < k by omega) with h8 | h8
    · exact pg_cn_two.mpr ⟨(k - mt_rd s).toNat, (j - mt_rd s).toNat, by omega, by omega, by rw [show mt_rd s + (((k - mt_rd s).toNat : Nat) : Int) = k by omega]; exact c1, by rw [show mt_rd s + (((j - mt_rd s).toNat : Nat) : Int) = j by omega]; exact c2⟩
    · exact pg_cn_two.mpr ⟨(j - mt_rd s).toNat, (k - mt_rd s).toNat, by omega, by omega, by rw [show mt_rd s + (((j - mt_rd s).toNat : Nat) : Int) = j by omega]; exact c2, by rw [show mt_rd s + (((k - mt_rd s).toNat : Nat) : Int) = k by omega]; exact c1⟩
  omega
theorem gr_mw (hs : s = 0 ∨ s = 1) (hn : 1 ≤ n ∧ n ≤ 12) (hmx : ∀ P Q : Int, gr_t (mt_sym col s n) s P Q ≤ 2) : mt_mw col s n ↔ ¬ ∃ P Q : Int, gr_t (mt_sym col s n) s P Q = 2 ∧ 0 < gr_m (mt_sym col s n) s P Q := by
  have hr := mt_rd_or hs
  have hG := gr_sym_G col hs hn.1
  have hiff : mt_mw col s n ↔ ¬ 2 ≤ pg_cn (fun t => mt_mk col s n ((mt_rd s).toNat + t) (6 * n * (6 * n)).toNat) (mt_rd s).toNat := by
    unfold mt_mw
    omega
  have hmk : ∀ t : Nat, t < (mt_rd s).toNat → (mt_mk col s n ((mt_rd s).toNat + t) (6 * n * (6 * n)).toNat ↔ ∃ P Q : Int, gr_fx (mt_sym col s n) s (mt_rd s + t) P Q) := by
    intro t ht
    rw [gr_mkk hs hn (by omega), show (((mt_rd s).toNat + t : Nat) : Int) = mt_rd s + t by omega]
  rw [hiff, pg_cn_two]
  refine not_congr ⟨?_, ?_⟩
  · rintro ⟨i, j, h1, h2, h3, h4⟩
    obtain ⟨P, Q, a⟩ := (hmk i (by omega)).mp h3
    obtain ⟨P', Q', b⟩ := (hmk j h2).mp h4
    exact gr_meet hs hG hmx (by omega) (by omega) (by omega) a b
  · rintro ⟨P, Q, h1, h2⟩
    have hmt := gr_mt hs hG h2
    have h3 : 2 ≤ pg_cn (fun k : Nat => gr_fx (mt_sym col s n) s (mt_rd s + k) P Q) (mt_rd s).toNat := by
      have : gr_m (mt_sym col s n) s P Q = pg_cn (fun k : Nat => gr_fx (mt_sym col s n) s (mt_rd s + k) P Q) (mt_rd s).toNat := rfl
      omega
    obtain ⟨i, j, i1, i2, i3, i4⟩ := pg_cn_two.mp h3
    exact ⟨i, j, i1, i2, (hmk i (by omega)).mpr ⟨P, Q, i3⟩, (hmk j i2).mpr ⟨P, Q, i4⟩⟩
theorem gr_kind (hs : s = 0 ∨ s = 1) (hn : 1 ≤ n ∧ n ≤ 12) (hD : gr_D h s n (mt_sym col s n)) (hS : sg_D h s) : sg_nm h = mt_kd col s n (mt_mx col s n (6 * n * (6 * n)).toNat) := by
  have hr := mt_rd_or hs
  have hG := hD.1
  obtain ⟨hE, hE0'⟩ := gr_E0 hs hn hD hS
  have hE0 : 0 < h 15 7 ↔ gr_pm (mt_sym col s n) s := hE0'
  clear hE0'
  have hEn : 0 ≤ h 15 7 := by rw [hE]; exact (pg_cn_bd _ _).1
  obtain ⟨x1, Px, Qx, x2⟩ := gr_mx (col := col) hs hn
  have hco : ∀ r : Nat, r < 7 → (0 ≤ h 16 r ∧ 0 ≤ h 17 r) ∧ (0 < h 16 r ↔ gr_pc (mt_sym col s n) s r) ∧ (0 < h 17 r ↔ gr_pk (mt_sym col s n) s r) := by
    intro r hr7
    have hc := gr_cones hs hn hD hS hr7
    have b0 := mt_cc_bd (s := s) hn col r 0
    have b1 := mt_cc_bd (s := s) hn col r 1
    rw [hc.1, hc.2, gr_cc_pos hs hn, gr_cc_pos hs hn]
    refine ⟨⟨b0.1, b1.1⟩, ⟨?_, ?_⟩, ⟨?_, ?_⟩⟩
    · rintro ⟨P, Q, q1, q2⟩; exact ⟨P, Q, q1, fun q3 => absurd (q2.mp q3) (by decide)⟩
    · rintro ⟨P, Q, q1, q2⟩; exact ⟨P, Q, q1, ⟨fun q3 => absurd q3 q2, fun q3 => absurd q3 (by decide)⟩⟩
    · rintro ⟨P, Q, q1, q2⟩; exact ⟨P, Q, q1, q2.mpr rfl⟩
    · rintro ⟨P, Q, q1, q2⟩; exact ⟨P, Q, q1, ⟨fun _ => rfl, fun _ => q2⟩⟩
  have hX := hS.2.2.2.1
  have hlf : sg_lf h 5 = 48 - 24 * h 15 7 - (h 16 2 * 12 + h 17 2 * 6) - (h 16 3 * 16 + h 17 3 * 8) - (h 16 4 * 18 + h 17 4 * 9) - (h 16 5 * 19 + h 17 5 * 9) - (h 16 6 * 20 + h 17 6 * 10) := rfl
  have hod := gr_od hs hn hD
  have hm : mt_hm col s n (6 * n * (6 * n)).toNat ↔ gr_pm (mt_sym col s n) s := gr_hm (col := col) hs hn
  have hxb := mt_mx_le hs hn col (6 * n * (6 * n)).toNat
  have hx1 : 1 ≤ mt_mx col s n (6 * n * (6 * n)).toNat := by rw [← x2]; exact gr_t1 hs hG _ _
  have hx5 : mt_mx col s n (6 * n * (6 * n)).toNat ≠ 5 := by rw [← x2]; exact gr_t5 hs hG _ _
  -- no place has more than x turns
  have hz : ∀ r : Nat, r < 7 → mt_mx col s n (6 * n * (6 * n)).toNat < r → h 16 r = 0 ∧ h 17 r = 0 := by
    intro r hr7 hlt
    obtain ⟨⟨a1, a2⟩, a3, a4⟩ := hco r hr7
    constructor
    · rcases (show h 16 r = 0 ∨ 0 < h 16 r by omega) with h0 | h0
      · exact h0
      · obtain ⟨P, Q, q1, -⟩ := a3.mp h0
        have := x1 P Q
        omega
    · rcases (show h 17 r = 0 ∨ 0 < h 17 r by omega) with h0 | h0
      · exact h0
      · obtain ⟨P, Q, q1, -⟩ := a4.mp h0
        have := x1 P Q
        omega
  have h5z : h 16 5 = 0 ∧ h 17 5 = 0 := by
    obtain ⟨⟨a1, a2⟩, a3, a4⟩ := hco 5 (by decide)
    constructor
    · rcases (show h 16 5 = 0 ∨ 0 < h 16 5 by omega) with h0 | h0
      · exact h0
      · obtain ⟨P, Q, q1, -⟩ := a3.mp h0
        exact absurd q1 (gr_t5 hs hG P Q)
    · rcases (show h 17 5 = 0 ∨ 0 < h 17 5 by omega) with h0 | h0
      · exact h0
      · obtain ⟨P, Q, q1, -⟩ := a4.mp h0
        exact absurd q1 (gr_t5 hs hG P Q)
  have c2 := hco 2 (by decide)
  have c3 := hco 3 (by decide)
  have c4 := hco 4 (by decide)
  have c6 := hco 6 (by decide)
  have z2 := hz 2 (by decide)
  have z3 := hz 3 (by decide)
  have z4 := hz 4 (by decide)
  have z6 := hz 6 (by decide)
  rw [show ((2 : Nat) : Int) = 2 from rfl] at c2 z2
  rw [show ((3 : Nat) : Int) = 3 from rfl] at c3 z3
  rw [show ((4 : Nat) : Int) = 4 from rfl] at c4 z4
  rw [show ((6 : Nat) : Int) = 6 from rfl] at c6 z6
  have hsx : (∀ P Q : Int, gr_t (mt_sym col s n) s P Q ≤ 2) → (mt_mw col s n ↔ ¬ gr_pk (mt_sym col s n) s 2) := gr_mw (col := col) hs hn
  have hp40 := gr_hp (col := col) hs hn 4 1
  have hp30 := gr_hp (col := col) hs hn 3 0
  have hp20 := gr_hp (col := col) hs hn 2 0
  have hp4 : mt_hp col s n 4 1 (6 * n * (6 * n)).toNat ↔ 0 < h 17 4 := by
    rw [hp40, c4.2.2]
    exact ⟨fun ⟨P, Q, q1, q2⟩ => ⟨P, Q, q1, q2.mpr rfl⟩, fun ⟨P, Q, q1, q2⟩ => ⟨P, Q, q1, ⟨fun _ => rfl, fun _ => q2⟩⟩⟩
  have hp3 : mt_hp col s n 3 0 (6 * n * (6 * n)).toNat ↔ 0 < h 16 3 := by
    rw [hp30, c3.2.1]
    exact ⟨fun ⟨P, Q, q1, q2⟩ => ⟨P, Q, q1, fun q3 => absurd (q2.mp q3) (by decide)⟩, fun ⟨P, Q, q1, q2⟩ => ⟨P, Q, q1, ⟨fun q3 => absurd q3 q2, fun q3 => absurd q3 (by decide)⟩⟩⟩
  have hp2 : mt_hp col s n 2 0 (6 * n * (6 * n)).toNat ↔ 0 < h 16 2 := by
    rw [hp20, c2.2.1]
    exact ⟨fun ⟨P, Q, q1, q2⟩ => ⟨P, Q, q1, fun q3 => absurd (q2.mp q3) (by decide)⟩, fun ⟨P, Q, q1, q2⟩ => ⟨P, Q, q1, ⟨fun q3 => absurd q3 q2, fun q3 => absurd q3 (by decide)⟩⟩⟩
  clear hp40 hp30 hp20
  -- what is there at the place of the most turns
  have hat : ∀ r : Int, mt_mx col s n (6 * n * (6 * n)).toNat = r → gr_pc (mt_sym col s n) s r ∨ gr_pk (mt_sym col s n) s r := by
    intro r hxr
    rcases Classical.em (0 < gr_m (mt_sym col s n) s Px Qx) with q | q
    · exact Or.inr ⟨Px, Qx, by rw [x2]; exact hxr, q⟩
    · exact Or.inl ⟨Px, Qx, by rw [x2]; exact hxr, q⟩
  have hcg := gr_pmcm hs hn hD hS
  have hc2 := fun (k u v : Int) hk hS' => gr_c2 hs hn hD hS (k := k) (u := u) (v := v) hk hS'
  -- turns at that place, by sort
  have htv : (s = 0 ∧ (mt_mx col s n (6 * n * (6 * n)).toNat = 1 ∨ mt_mx col s n (6 * n * (6 * n)).toNat = 2 ∨ (mt_mx col s n (6 * n * (6 * n)).toNat = 4 ∧ gr_p1 (mt_sym col s n) 1))) ∨ (s = 1 ∧ (mt_mx col s n (6 * n * (6 * n)).toNat = 1 ∨ mt_mx col s n (6 * n * (6 * n)).toNat = 2 ∨ (mt_mx col s n (6 * n * (6 * n)).toNat = 3 ∧ gr_fx (mt_sym col s n) s 2 Px Qx) ∨ (mt_mx col s n (6 * n * (6 * n)).toNat = 6 ∧ gr_fx (mt_sym col s n) s 1 Px Qx ∧ gr_fx (mt_sym col s n) s 2 Px Qx))) := by
    rcases hs with rfl | rfl
    · left
      refine ⟨rfl, ?_⟩
      rcases gr_tv0 hG Px Qx with q | ⟨q, -⟩ | ⟨q, q1⟩
      · exact Or.inl (by omega)
      · exact Or.inr (Or.inl (by omega))
      · obtain ⟨u, v, q2, -, -⟩ := q1
        exact Or.inr (Or.inr ⟨by omega, u, v, q2⟩)
    · right
      refine ⟨rfl, ?_⟩
      rcases gr_tv1 hG Px Qx with q | ⟨q, -⟩ | ⟨q, q1⟩ | ⟨q, q1, q2⟩
      · exact Or.inl (by omega)
      · exact Or.inr (Or.inl (by omega))
      · exact Or.inr (Or.inr (Or.inl ⟨by omega, q1⟩))
      · exact Or.inr (Or.inr (Or.inr ⟨by omega, q1, q2⟩))
  generalize hxx : mt_mx col s n (6 * n * (6 * n)).toNat = x at *
  rcases Classical.em (gr_pm (mt_sym col s n) s) with hmm | hmm
  · -- mirrors
    have hEp : 0 < h 15 7 := hE0.mpr hmm
    obtain ⟨Pm, Qm, hpm⟩ := hmm
    obtain ⟨k0, hk0, hfk⟩ := pg_cn_pos.mp hpm
    have hk : mt_rd s ≤ mt_rd s + (k0 : Int) ∧ mt_rd s + (k0 : Int) < 2 * mt_rd s := by omega
    generalize mt_rd s + (k0 : Int) = k at *
    obtain ⟨uk, vk, hSk, -, -⟩ := id hfk
    unfold mt_kd sg_nm
    have hmy := hm.mpr ⟨Pm, Qm, hpm⟩
    rw [pg_if_t hmy, pg_if_t hmy, pg_if_t hmy, pg_if_t hmy, pg_if_t hmy, if_neg (show ¬ h 15 7 = 0 by omega)]
    rcases htv with ⟨hs0, hx⟩ | ⟨hs1, hx⟩
    · subst hs0
      have k3 : h 17 3 = 0 := by
        rcases (show h 17 3 = 0 ∨ 0 < h 17 3 by omega) with h0 | h0
        · exact h0
        · obtain ⟨P, Q, q1, -⟩ := c3.2.2.mp h0
          rcases gr_tv0 hG P Q with q | ⟨q, -⟩ | ⟨q, -⟩ <;> omega
      rcases hx with hx | hx | ⟨hx, -⟩
      · rw [if_neg (show ¬ x = 6 by omega), if_neg (show ¬ x = 4 by omega), if_neg (show ¬ x = 3 by omega), if_neg (show ¬ x = 2 by omega)]
        rw [if_neg (show ¬ 0 < h 17 6 by omega), if_neg (show ¬ 0 < h 17 4 by omega), if_neg (show ¬ 0 < h 17 3 by omega), if_neg (show ¬ 0 < h 16 4 by omega), if_neg (show ¬ 0 < h 17 2 by omega), if_neg (show ¬ 0 < h 16 2 by omega)]
        have hq := hcg (fun P Q => by have := x1 P Q; omega) hpm
        rcases Classical.em (mt_hg col 0 n) with hg | hg
        · rw [pg_if_t hg, if_neg (by have := hq.1 hg; omega)]
        · rw [pg_if_f hg, if_pos (hq.2 hg)]
      · rw [if_neg (show ¬ x = 6 by omega), if_neg (show ¬ x = 4 by omega), if_neg (show ¬ x = 3 by omega), if_pos hx]
        rw [if_neg (show ¬ 0 < h 17 6 by omega), if_neg (show ¬ 0 < h 17 4 by omega), if_neg (show ¬ 0 < h 17 3 by omega), if_neg (show ¬ 0 < h 16 4 by omega)]
        have hmw := hsx (fun P Q => by have := x1 P Q; omega)
        rw [← c2.2.2] at hmw
        rcases (show 0 < h 17 2 ∨ ¬ 0 < h 17 2 by omega) with h2 | h2
        · rw [if_pos h2, pg_if_f (fun q => hmw.mp q h2)]
          rcases (show 0 < h 16 2 ∨ ¬ 0 < h 16 2 by omega) with h3 | h3
          · rw [if_pos h3, pg_if_t (hp2.mpr h3)]
          · rw [if_neg h3, pg_if_f (fun q => h3 (hp2.mp q))]
        · rw [if_neg h2, pg_if_t (hmw.mpr h2), if_pos (show 0 < h 16 2 by
            rcases hat 2 hx with q | q
            · exact c2.2.1.mpr q
            · exact absurd (c2.2.2.mpr q) h2)]
      · rw [if_neg (show ¬ x = 6 by omega), if_pos hx]
        rw [if_neg (show ¬ 0 < h 17 6 by omega)]
        rcases (show 0 < h 17 4 ∨ ¬ 0 < h 17 4 by omega) with h2 | h2
        · rw [if_pos h2, pg_if_t (hp4.mpr h2)]
        · rw [if_neg h2, pg_if_f (fun q => h2 (hp4.mp q)), if_neg (show ¬ 0 < h 17 3 by omega), if_pos (show 0 < h 16 4 by
            rcases hat 4 hx with q | q
            · exact c4.2.1.mpr q
            · exact absurd (c4.2.2.mpr q) h2)]
    · subst hs1
      have hk6 : 6 ≤ k ∧ k < 12 := by omega
      have k4 : h 17 4 = 0 ∧ h 16 4 = 0 := by
        constructor
        · rcases (show h 17 4 = 0 ∨ 0 < h 17 4 by omega) with h0 | h0
          · exact h0
          · obtain ⟨P, Q, q1, -⟩ := c4.2.2.mp h0
            rcases gr_tv1 hG P Q with q | ⟨q, -⟩ | ⟨q, -⟩ | ⟨q, -⟩ <;> omega
        · rcases (show h 16 4 = 0 ∨ 0 < h 16 4 by omega) with h0 | h0
          · exact h0
          · obtain ⟨P, Q, q1, -⟩ := c4.2.1.mp h0
            rcases gr_tv1 hG P Q with q | ⟨q, -⟩ | ⟨q, -⟩ | ⟨q, -⟩ <;> omega
      rcases hx with hx | hx | ⟨hx, hf2⟩ | ⟨hx, hf1, hf2⟩
      · rw [if_neg (show ¬ x = 6 by omega), if_neg (show ¬ x = 4 by omega), if_neg (show ¬ x = 3 by omega), if_neg (show ¬ x = 2 by omega)]
        rw [if_neg (show ¬ 0 < h 17 6 by omega), if_neg (show ¬ 0 < h 17 4 by omega), if_neg (show ¬ 0 < h 17 3 by omega), if_neg (show ¬ 0 < h 16 4 by omega), if_neg (show ¬ 0 < h 17 2 by omega), if_neg (show ¬ 0 < h 16 2 by omega)]
        have hq := hcg (fun P Q => by have := x1 P Q; omega) hpm
        rcases Classical.em (mt_hg col 1 n) with hg | hg
        · rw [pg_if_t hg, if_neg (by have := hq.1 hg; omega)]
        · rw [pg_if_f hg, if_pos (hq.2 hg)]
      · rw [if_neg (show ¬ x = 6 by omega), if_neg (show ¬ x = 4 by omega), if_neg (show ¬ x = 3 by omega), if_pos hx]
        rw [if_neg (show ¬ 0 < h 17 6 by omega), if_neg (show ¬ 0 < h 17 4 by omega), if_neg (show ¬ 0 < h 17 3 by omega), if_neg (show ¬ 0 < h 16 4 by omega)]
        have hmw := hsx (fun P Q => by have := x1 P Q; omega)
        rw [← c2.2.2] at hmw
        rcases (show 0 < h 17 2 ∨ ¬ 0 < h 17 2 by omega) with h2 | h2
        · rw [if_pos h2, pg_if_f (fun q => hmw.mp q h2)]
          rcases (show 0 < h 16 2 ∨ ¬ 0 < h 16 2 by omega) with h3 | h3
          · rw [if_pos h3, pg_if_t (hp2.mpr h3)]
          · rw [if_neg h3, pg_if_f (fun q => h3 (hp2.mp q))]
        · rw [if_neg h2, pg_if_t (hmw.mpr h2), if_pos (show 0 < h 16 2 by
            rcases hat 2 hx with q | q
            · exact c2.2.1.mpr q
            · exact absurd (c2.2.2.mpr q) h2)]
      · rw [if_neg (show ¬ x = 6 by omega), if_neg (show ¬ x = 4 by omega), if_pos hx]
        rw [if_neg (show ¬ 0 < h 17 6 by omega), if_neg (show ¬ 0 < h 17 4 by omega)]
        obtain ⟨P, Q, q1, q2⟩ := gr_m3c hG hk6 hSk hf2
        have hmq := gr_fx_m (S := mt_sym col 1 n) (Or.inr rfl) hk q2
        have ht3 : gr_t (mt_sym col 1 n) 1 P Q = 3 := by
          have := x1 P Q
          rcases gr_tv1 hG P Q with q | ⟨q, q3⟩ | ⟨q, -⟩ | ⟨q, -⟩
          · exfalso
            have e := gr_cn6 (fun k => gr_fx (mt_sym col 1 n) 1 k P Q)
            have e' : gr_t (mt_sym col 1 n) 1 P Q = pg_b (gr_fx (mt_sym col 1 n) 1 0 P Q) + pg_b (gr_fx (mt_sym col 1 n) 1 1 P Q) + pg_b (gr_fx (mt_sym col 1 n) 1 2 P Q) + pg_b (gr_fx (mt_sym col 1 n) 1 3 P Q) + pg_b (gr_fx (mt_sym col 1 n) 1 4 P Q) + pg_b (gr_fx (mt_sym col 1 n) 1 5 P Q) := e
            have f0 : gr_fx (mt_sym col 1 n) 1 0 P Q := ⟨0, 0, hG.1, by rw [(mt_x0 1 _ _).1]; omega, by rw [(mt_x0 1 _ _).2]; omega⟩
            rw [pg_b_t f0, pg_b_t q1] at e'
            have b1 := pg_b_01 (gr_fx (mt_sym col 1 n) 1 1 P Q)
            have b3 := pg_b_01 (gr_fx (mt_sym col 1 n) 1 3 P Q)
            have b4 := pg_b_01 (gr_fx (mt_sym col 1 n) 1 4 P Q)
            have b5 := pg_b_01 (gr_fx (mt_sym col 1 n) 1 5 P Q)
            omega
          · exfalso
            have e := gr_cn6 (fun k => gr_fx (mt_sym col 1 n) 1 k P Q)
            have e' : gr_t (mt_sym col 1 n) 1 P Q = pg_b (gr_fx (mt_sym col 1 n) 1 0 P Q) + pg_b (gr_fx (mt_sym col 1 n) 1 1 P Q) + pg_b (gr_fx (mt_sym col 1 n) 1 2 P Q) + pg_b (gr_fx (mt_sym col 1 n) 1 3 P Q) + pg_b (gr_fx (mt_sym col 1 n) 1 4 P Q) + pg_b (gr_fx (mt_sym col 1 n) 1 5 P Q) := e
            have f0 : gr_fx (mt_sym col 1 n) 1 0 P Q := ⟨0, 0, hG.1, by rw [(mt_x0 1 _ _).1]; omega, by rw [(mt_x0 1 _ _).2]; omega⟩
            rw [pg_b_t f0, pg_b_t q1, pg_b_t q3] at e'
            have b1 := pg_b_01 (gr_fx (mt_sym col 1 n) 1 1 P Q)
            have b4 := pg_b_01 (gr_fx (mt_sym col 1 n) 1 4 P Q)
            have b5 := pg_b_01 (gr_fx (mt_sym col 1 n) 1 5 P Q)
            omega
          · exact q
          · omega
        rw [if_pos (show 0 < h 17 3 from c3.2.2.mpr ⟨P, Q, ht3, hmq⟩)]
        rcases (show 0 < h 16 3 ∨ ¬ 0 < h 16 3 by omega) with h3 | h3
        · rw [if_pos h3, pg_if_t (hp3.mpr h3)]
        · rw [if_neg h3, pg_if_f (fun q => h3 (hp3.mp q))]
      · rw [if_pos hx]
        have hf6 := gr_m6 hG hk6 hSk hf1
        rw [if_pos (show 0 < h 17 6 from c6.2.2.mpr ⟨Px, Qx, by omega, gr_fx_m (Or.inr rfl) hk hf6⟩)]
  · -- no mirrors
    have hEz : h 15 7 = 0 := by
      rcases (show h 15 7 = 0 ∨ 0 < h 15 7 by omega) with h0 | h0
      · exact h0
      · exact absurd (hE0.mp h0) hmm
    have hkz : ∀ r : Nat, r < 7 → h 17 r = 0 := by
      intro r hr7
      obtain ⟨⟨a1, a2⟩, a3, a4⟩ := hco r hr7
      rcases (show h 17 r = 0 ∨ 0 < h 17 r by omega) with h0 | h0
      · exact h0
      · obtain ⟨P, Q, -, q⟩ := a4.mp h0
        exact absurd ⟨P, Q, q⟩ hmm
    have k2 := hkz 2 (by decide)
    have k3 := hkz 3 (by decide)
    have k4 := hkz 4 (by decide)
    have k6 := hkz 6 (by decide)
    have hatc : ∀ r : Int, x = r → gr_pc (mt_sym col s n) s r := by
      intro r hxr
      rcases hat r hxr with q | ⟨P, Q, -, q⟩
      · exact q
      · exact absurd ⟨P, Q, q⟩ hmm
    unfold mt_kd sg_nm
    rw [pg_if_f (fun q => hmm (hm.mp q)), pg_if_f (fun q => hmm (hm.mp q)), pg_if_f (fun q => hmm (hm.mp q)), pg_if_f (fun q => hmm (hm.mp q)), pg_if_f (fun q => hmm (hm.mp q)), if_pos hEz]
    rcases Classical.em (sg_od h s) with ho | ho
    · rw [pg_if_t (hod.mp ho), pg_if_t (hod.mp ho)]
      rw [pg_if_t ho] at hX
      obtain ⟨k, hk, hk1⟩ := id ho
      obtain ⟨uk, vk, hSk⟩ := (hD.2.2.2.1 k (by omega)).mp hk1
      have hx12 : x = 1 ∨ x = 2 := by
        rcases htv with ⟨hs0, hx⟩ | ⟨hs1, hx⟩
        · subst hs0
          rcases hx with hx | hx | ⟨hx, u, v, q⟩
          · exact Or.inl hx
          · exact Or.inr hx
          · exfalso
            obtain ⟨j, P, Q, q1, q2⟩ := gr_m4 hG hD.2.1 (k := k) (by omega) q hSk
            exact hmm ⟨P, Q, gr_fx_m hs (by omega) q2⟩
        · subst hs1
          rcases hx with hx | hx | ⟨hx, hf2⟩ | ⟨hx, -, hf2⟩
          · exact Or.inl hx
          · exact Or.inr hx
          · exfalso
            obtain ⟨u, v, q, -, -⟩ := hf2
            obtain ⟨P, Q, q2⟩ := gr_m3 hG (k := k) (by omega) q hSk
            exact hmm ⟨P, Q, gr_fx_m hs hk q2⟩
          · exfalso
            obtain ⟨u, v, q, -, -⟩ := hf2
            obtain ⟨P, Q, q2⟩ := gr_m3 hG (k := k) (by omega) q hSk
            exact hmm ⟨P, Q, gr_fx_m hs hk q2⟩
      rcases hx12 with hx | hx
      · rw [if_neg (show ¬ x = 6 by omega), if_neg (show ¬ x = 4 by omega), if_neg (show ¬ x = 3 by omega), if_neg (show ¬ x = 2 by omega)]
        have e : sg_lf h 5 = 48 := by omega
        rw [e] at hX
        have hX2 : h 15 8 = 2 := hX
        rw [if_neg (show ¬ h 15 8 = 0 by omega), if_pos hX2]
      · rw [if_neg (show ¬ x = 6 by omega), if_neg (show ¬ x = 4 by omega), if_neg (show ¬ x = 3 by omega), if_pos hx]
        have hc2' := hc2 k uk vk hk hSk
        have hpos : 0 < h 16 2 := c2.2.1.mpr (hatc 2 hx)
        have e : sg_lf h 5 = 36 ∨ sg_lf h 5 = 24 := by omega
        have hX1 : h 15 8 = 1 := by
          rcases e with e | e
          · rw [e] at hX; exact hX
          · rw [e] at hX; exact hX
        rw [if_neg (show ¬ h 15 8 = 0 by omega), if_neg (show ¬ h 15 8 = 2 by omega)]
    · have ho' : ¬ mt_od col s n := fun q => ho (hod.mpr q)
      rw [pg_if_f ho', pg_if_f ho']
      rw [pg_if_f ho] at hX
      rw [if_pos hX]
      unfold sg_n0
      have hx : x = 1 ∨ x = 2 ∨ x = 3 ∨ x = 4 ∨ x = 6 := by omega
      rcases hx with hx | hx | hx | hx | hx
      · rw [if_neg (show ¬ x = 6 by omega), if_neg (show ¬ x = 4 by omega), if_neg (show ¬ x = 3 by omega), if_neg (show ¬ x = 2 by omega), if_neg (show ¬ 0 < h 16 6 by omega), if_neg (show ¬ 0 < h 16 4 by omega), if_neg (show ¬ 0 < h 16 3 by omega), if_neg (show ¬ 0 < h 16 2 by omega)]
      · rw [if_neg (show ¬ x = 6 by omega), if_neg (show ¬ x = 4 by omega), if_neg (show ¬ x = 3 by omega), if_pos hx, if_neg (show ¬ 0 < h 16 6 by omega), if_neg (show ¬ 0 < h 16 4 by omega), if_neg (show ¬ 0 < h 16 3 by omega), if_pos (c2.2.1.mpr (hatc 2 hx))]
      · rw [if_neg (show ¬ x = 6 by omega), if_neg (show ¬ x = 4 by omega), if_pos hx, if_neg (show ¬ 0 < h 16 6 by omega), if_neg (show ¬ 0 < h 16 4 by omega), if_pos (c3.2.1.mpr (hatc 3 hx))]
      · rw [if_neg (show ¬ x = 6 by omega), if_pos hx, if_neg (show ¬ 0 < h 16 6 by omega), if_pos (c4.2.1.mpr (hatc 4 hx))]
      · rw [if_pos hx, if_pos (c6.2.1.mpr (hatc 6 hx))]
end
