/-! the reference: count -/
/-- the first symmetry of its k -/
def mt_k1 (col : Nat → Int) (s n : Int) (m : Nat) : Prop := ∀ m' : Nat, m' < m → mt_sm col s n m' → (m' : Int) / (n * n) ≠ (m : Int) / (n * n)
theorem mt_k1_li {g : pg_H} {s n : Int} (hs : s = 0 ∨ s = 1) (hn : 1 ≤ n ∧ n ≤ 12) (hS : ri_S g s n) : pg_cn (fun b => b = 0 ∨ g 3 b / (n * n) ≠ g 3 (b - 1) / (n * n)) (g 0 6).toNat = pg_cn (fun m => mt_sm (g 1) s n m ∧ mt_k1 (g 1) s n m) (2 * mt_rd s * (n * n)).toNat := by
  have hnn := mt_nn hn.1 hn.2
  have hN := mt_2rn hs hn
  have hL : ∀ m, m < (2 * mt_rd s * (n * n)).toNat → mt_sm (g 1) s n m → g 3 (pg_cn (mt_sm (g 1) s n) m).toNat = m := fun m h => hS.2 m (by omega)
  rw [← pg_cn_li (Q := mt_k1 (g 1) s n) hL, ← hS.1]
  refine pg_cn_iff (fun b hb => ?_)
  have hcb := pg_cn_bd (mt_sm (g 1) s n) (2 * mt_rd s * (n * n)).toNat
  have h6 := hS.1
  obtain ⟨m, m1, m2, m3⟩ := pg_cn_ex (P := mt_sm (g 1) s n) (m := (2 * mt_rd s * (n * n)).toNat) (i := (b : Int)) (by omega) (by omega)
  have e1 : g 3 b = m := by have := hL m m1 m2; rw [m3, Int.toNat_natCast] at this; exact this
  rw [e1, Int.toNat_natCast]
  rcases (show b = 0 ∨ 0 < b by omega) with h0 | h0
  · refine ⟨fun _ m' h1 h2 => ?_, fun _ => Or.inl h0⟩
    have h3 := pg_cn_lt2 h1 h2
    have h4 := pg_cn_bd (mt_sm (g 1) s n) m'
    omega
  · obtain ⟨q, q1, q2, q3⟩ := pg_cn_ex (P := mt_sm (g 1) s n) (m := (2 * mt_rd s * (n * n)).toNat) (i := (b : Int) - 1) (by omega) (by omega)
    have e2 : g 3 (b - 1) = q := by have := hL q q1 q2; rw [q3, show ((b : Int) - 1).toNat = b - 1 by omega] at this; exact this
    rw [e2]
    have hqm : q < m := by
      rcases Nat.lt_trichotomy q m with h | h | h
      · exact h
      · rw [h] at q3; omega
      · have := pg_cn_lt2 h m2; omega
    constructor
    · rintro (h | h) m' h1 h2
      · omega
      · have h3 : m' ≤ q := by
          rcases (show m' ≤ q ∨ q < m' by omega) with h4 | h4
          · exact h4
          · have := pg_cn_lt2 h4 q2
            have := pg_cn_lt2 h1 h2
            omega
        have h5 : (m' : Int) / (n * n) ≤ (q : Int) / (n * n) := Int.ediv_le_ediv (by omega) (by omega)
        have h6 : (q : Int) / (n * n) ≤ (m : Int) / (n * n) := Int.ediv_le_ediv (by omega) (by omega)
        intro h7
        exact h (by omega)
    · intro h
      exact Or.inr (fun h1 => h q hqm q2 h1.symm)
set_option maxRecDepth 20000 in
set_option maxHeartbeats 4000000 in
theorem re_cm6_l {g0 : pg_H} {s n : Int} (hB0 : rm_B g0 s n) (hC0 : ri_C g0) (hS0 : ri_S g0 s n) (h70 : g0 0 7 = 1) : ∀ (d : Nat) (f b : Int) (hd : b + (d : Int) = g0 0 6) (hb : 0 ≤ b) (hF : f = pg_cn (fun b => b = 0 ∨ g0 3 b / (n * n) ≠ g0 3 (b - 1) / (n * n)) b.toNat), pg_Good false pm_T_countMoves (fun r h' => ∃ g', h' = rm g' s n ∧ rf [3, 13] [6, 7, 15, 16] g0 g' ∧ g' 0 7 = 1 ∧ ri_S g' s n ∧ r = some (.inl (pg_cn (fun m => mt_sm (g0 1) s n m ∧ mt_k1 (g0 1) s n m) (2 * mt_rd s * (n * n)).toNat))) (10, [(0, .inr (.inr 0)), (1, .inl 6), (2, .inl f), (3, .inl b)], [], rm g0 s n) := by
  intro d
  induction d with
  | zero =>
    intro f b hd hb hF
    obtain ⟨hs, hn, -⟩ := id hB0
    obtain ⟨hn1, hn2⟩ := id hn
    have hr := mt_rd_or hs
    have hnn := mt_nn hn1 hn2
    have hN := mt_2rn hs hn
    have hcb := pg_cn_bd (mt_sm (g0 1) s n) (2 * mt_rd s * (n * n)).toNat
    have h6 : g0 0 6 = pg_cn (mt_sm (g0 1) s n) (2 * mt_rd s * (n * n)).toNat := hS0.1
    refine pg_br 3 (L := []) (P := pg_inR b ∧ pg_inR (g0 0 6)) (c := (g0 0 6) ≤ b) (st1 := (61, [(0, .inr (.inr 0)), (1, .inl 6), (2, .inl f), (3, .inl b)], [], rm g0 s n)) (st2 := (18, [(0, .inr (.inr 0)), (1, .inl 6), (2, .inl f), (3, .inl b)], [], rm g0 s n)) rfl trivial ⟨⟨by omega, by omega⟩, ⟨by omega, by omega⟩⟩ (fun c_15_1 => ?_) (fun c_15_1 => ?_)
    · refine pg_re 2 (L := []) (r := some (.inl f)) (h0 := rm g0 s n) rfl trivial ?_
      refine ⟨g0, rfl, rf_rf _ _ _, h70, hS0, ?_⟩
      rw [← mt_k1_li hs hn hS0, hF, show g0 0 6 = b by omega]
    · exact (by exfalso; omega)
  | succ d ih =>
    intro f b hd hb hF
    obtain ⟨hs, hn, -⟩ := id hB0
    obtain ⟨hn1, hn2⟩ := id hn
    have hr := mt_rd_or hs
    have hnn := mt_nn hn1 hn2
    have hN := mt_2rn hs hn
    have hcb := pg_cn_bd (mt_sm (g0 1) s n) (2 * mt_rd s * (n * n)).toNat
    have h6 : g0 0 6 = pg_cn (mt_sm (g0 1) s n) (2 * mt_rd s * (n * n)).toNat := hS0.1
    obtain ⟨m, hm1, hm2, hm3⟩ := pg_cn_ex (show 0 ≤ b by omega) (show b < pg_cn (mt_sm (g0 1) s n) (2 * mt_rd s * (n * n)).toNat by omega)
    have hma : g0 3 (b).toNat = (m : Int) := by rw [← hm3]; exact hS0.2 m (by omega) hm2
    have hka := mt_kof hn1 (show 0 ≤ g0 3 (b).toNat ∧ g0 3 (b).toNat < 2 * mt_rd s * (n * n) by omega)
    have hfb := pg_cn_bd (fun b => b = 0 ∨ g0 3 b / (n * n) ≠ g0 3 (b - 1) / (n * n)) b.toNat
    have ek : (b + 1).toNat = b.toNat + 1 := by omega
    have hpb : 0 < b → 0 ≤ g0 3 (b - 1).toNat ∧ g0 3 (b - 1).toNat < 2 * mt_rd s * (n * n) := by
      intro h0
      obtain ⟨mq, hm1q, hm2q, hm3q⟩ := pg_cn_ex (show 0 ≤ b - 1 by omega) (show b - 1 < pg_cn (mt_sm (g0 1) s n) (2 * mt_rd s * (n * n)).toNat by omega)
      have hmaq : g0 3 (b - 1).toNat = (mq : Int) := by rw [← hm3q]; exact hS0.2 mq (by omega) hm2q
      omega
    have hpk : 0 < b → 0 ≤ g0 3 (b - 1).toNat / (n * n) ∧ g0 3 (b - 1).toNat / (n * n) < 2 * mt_rd s := fun h0 => mt_kof hn1 (hpb h0)
    have eb1 : b.toNat - 1 = (b - 1).toNat := by omega
    refine pg_br 3 (L := []) (P := pg_inR b ∧ pg_inR (g0 0 6)) (c := (g0 0 6) ≤ b) (st1 := (61, [(0, .inr (.inr 0)), (1, .inl 6), (2, .inl f), (3, .inl b)], [], rm g0 s n)) (st2 := (18, [(0, .inr (.inr 0)), (1, .inl 6), (2, .inl f), (3, .inl b)], [], rm g0 s n)) rfl trivial ⟨⟨by omega, by omega⟩, ⟨by omega, by omega⟩⟩ (fun c_15_2 => ?_) (fun c_15_2 => ?_)
    · exact (by exfalso; omega)
    · refine pg_br 1 (L := []) (P := pg_inR b) (c := b = 0) (st1 := (47, [(0, .inr (.inr 0)), (1, .inl 6), (2, .inl f), (3, .inl b)], [], rm g0 s n)) (st2 := (22, [(0, .inr (.inr 0)), (1, .inl 6), (2, .inl f), (3, .inl b)], [], rm g0 s n)) rfl trivial ⟨by omega, by omega⟩ (fun c_19_3 => ?_) (fun c_19_3 => ?_)
      · refine pg_go 7 (L := []) (st' := (10, [(0, .inr (.inr 0)), (1, .inl 6), (2, .inl (f + 1)), (3, .inl (b + 1))], [], rm g0 s n)) rfl trivial ?_
        refine ih _ _ (by omega) (by omega) ?_
        rw [ek]
        simp only [pg_cn]
        rw [eb1]
        rw [pg_b_t (by first | exact Or.inl (by omega) | exact Or.inr (by omega)), hF]
      · refine pg_ca 5 (L := [0 ≤ b ∧ b < (1728 : Int)]) (Mc := pm_T_kOf) (as := [.inr (.inr 0), .inl (g0 3 b.toNat)]) (h0 := rm g0 s n) (pc := 32) (lv := [(0, .inr (.inr 0)), (1, .inl 6), (2, .inl f), (3, .inl b)]) (rest := []) rfl ⟨by omega, by omega⟩ (re_kOf (g := g0) (s := s) hn (g0 3 b.toNat) ⟨by omega, by omega⟩) ?_
        intro r_1 h_1 e_1; rw [e_1.1, e_1.2]
        refine pg_ca 7 (L := [0 ≤ (b - 1) ∧ (b - 1) < (1728 : Int)]) (Mc := pm_T_kOf) (as := [.inr (.inr 0), .inl (g0 3 ((b - 1).toNat))]) (h0 := rm g0 s n) (pc := 44) (lv := [(0, .inr (.inr 0)), (1, .inl 6), (2, .inl f), (3, .inl b)]) (rest := [.inl ((g0 3 b.toNat) / (n * n))]) rfl ⟨by omega, by omega⟩ (re_kOf (g := g0) (s := s) hn (g0 3 ((b - 1).toNat)) ⟨by omega, by omega⟩) ?_
        intro r_1 h_1 e_1; rw [e_1.1, e_1.2]
        refine pg_br 0 (L := []) (P := pg_inR ((g0 3 b.toNat) / (n * n)) ∧ pg_inR ((g0 3 ((b - 1).toNat)) / (n * n))) (c := ((g0 3 b.toNat) / (n * n)) = ((g0 3 ((b - 1).toNat)) / (n * n))) (st1 := (53, [(0, .inr (.inr 0)), (1, .inl 6), (2, .inl f), (3, .inl b)], [], rm g0 s n)) (st2 := (47, [(0, .inr (.inr 0)), (1, .inl 6), (2, .inl f), (3, .inl b)], [], rm g0 s n)) rfl trivial ⟨⟨by omega, by omega⟩, ⟨by omega, by omega⟩⟩ (fun c_44_4 => ?_) (fun c_44_4 => ?_)
        · refine pg_go 4 (L := []) (st' := (10, [(0, .inr (.inr 0)), (1, .inl 6), (2, .inl f), (3, .inl (b + 1))], [], rm g0 s n)) rfl trivial ?_
          refine ih _ _ (by omega) (by omega) ?_
          rw [ek]
          simp only [pg_cn]
          rw [eb1]
          rw [pg_b_f (fun h => by rcases h with h | h <;> omega), hF, Int.add_zero]
        · refine pg_go 7 (L := []) (st' := (10, [(0, .inr (.inr 0)), (1, .inl 6), (2, .inl (f + 1)), (3, .inl (b + 1))], [], rm g0 s n)) rfl trivial ?_
          refine ih _ _ (by omega) (by omega) ?_
          rw [ek]
          simp only [pg_cn]
          rw [eb1]
          rw [pg_b_t (by first | exact Or.inl (by omega) | exact Or.inr (by omega)), hF]
set_option maxRecDepth 20000 in
set_option maxHeartbeats 4000000 in
theorem re_cm8_l {g0 : pg_H} {s n : Int} (hB0 : rm_B g0 s n) (hC0 : ri_C g0) (hS0 : ri_S g0 s n) (h70 : g0 0 7 = 1) : ∀ (d : Nat) (f b : Int) (hd : b + (d : Int) = g0 0 6) (hb : 0 ≤ b) (hF : f = pg_cn (fun b => g0 3 b / (n * n) = 0) b.toNat), pg_Good false pm_T_countMoves (fun r h' => ∃ g', h' = rm g' s n ∧ rf [3, 13] [6, 7, 15, 16] g0 g' ∧ g' 0 7 = 1 ∧ ri_S g' s n ∧ r = some (.inl (pg_cn (fun m => mt_sm (g0 1) s n m ∧ (m : Int) / (n * n) = 0) (2 * mt_rd s * (n * n)).toNat))) (72, [(0, .inr (.inr 0)), (1, .inl 8), (2, .inl f), (3, .inl b)], [], rm g0 s n) := by
  intro d
  induction d with
  | zero =>
    intro f b hd hb hF
    obtain ⟨hs, hn, -⟩ := id hB0
    obtain ⟨hn1, hn2⟩ := id hn
    have hr := mt_rd_or hs
    have hnn := mt_nn hn1 hn2
    have hN := mt_2rn hs hn
    have hcb := pg_cn_bd (mt_sm (g0 1) s n) (2 * mt_rd s * (n * n)).toNat
    have h6 : g0 0 6 = pg_cn (mt_sm (g0 1) s n) (2 * mt_rd s * (n * n)).toNat := hS0.1
    refine pg_br 3 (L := []) (P := pg_inR b ∧ pg_inR (g0 0 6)) (c := (g0 0 6) ≤ b) (st1 := (107, [(0, .inr (.inr 0)), (1, .inl 8), (2, .inl f), (3, .inl b)], [], rm g0 s n)) (st2 := (80, [(0, .inr (.inr 0)), (1, .inl 8), (2, .inl f), (3, .inl b)], [], rm g0 s n)) rfl trivial ⟨⟨by omega, by omega⟩, ⟨by omega, by omega⟩⟩ (fun c_77_1 => ?_) (fun c_77_1 => ?_)
    · refine pg_re 2 (L := []) (r := some (.inl f)) (h0 := rm g0 s n) rfl trivial ?_
      refine ⟨g0, rfl, rf_rf _ _ _, h70, hS0, ?_⟩
      rw [← pg_cn_li (Q := fun m => (m : Int) / (n * n) = 0) (L := g0 3) (fun m h => hS0.2 m (by omega)), ← hS0.1, hF, show b = g0 0 6 by omega]
      congr 2
      refine pg_cn_iff (fun j hj => ?_)
      obtain ⟨q, q1, q2, q3⟩ := pg_cn_ex (P := (mt_sm (g0 1) s n)) (m := (2 * mt_rd s * (n * n)).toNat) (i := (j : Int)) (by omega) (by omega)
      have e9 : g0 3 j = q := by have := hS0.2 q (by omega) q2; rw [q3, Int.toNat_natCast] at this; exact this
      rw [e9, Int.toNat_natCast]
    · exact (by exfalso; omega)
  | succ d ih =>
    intro f b hd hb hF
    obtain ⟨hs, hn, -⟩ := id hB0
    obtain ⟨hn1, hn2⟩ := id hn
    have hr := mt_rd_or hs
    have hnn := mt_nn hn1 hn2
    have hN := mt_2rn hs hn
    have hcb := pg_cn_bd (mt_sm (g0 1) s n) (2 * mt_rd s * (n * n)).toNat
    have h6 : g0 0 6 = pg_cn (mt_sm (g0 1) s n) (2 * mt_rd s * (n * n)).toNat := hS0.1
    obtain ⟨m, hm1, hm2, hm3⟩ := pg_cn_ex (show 0 ≤ b by omega) (show b < pg_cn (mt_sm (g0 1) s n) (2 * mt_rd s * (n * n)).toNat by omega)
    have hma : g0 3 (b).toNat = (m : Int) := by rw [← hm3]; exact hS0.2 m (by omega) hm2
    have hka := mt_kof hn1 (show 0 ≤ g0 3 (b).toNat ∧ g0 3 (b).toNat < 2 * mt_rd s * (n * n) by omega)
    have hfb := pg_cn_bd (fun b => g0 3 b / (n * n) = 0) b.toNat
    have ek : (b + 1).toNat = b.toNat + 1 := by omega
    refine pg_br 3 (L := []) (P := pg_inR b ∧ pg_inR (g0 0 6)) (c := (g0 0 6) ≤ b) (st1 := (107, [(0, .inr (.inr 0)), (1, .inl 8), (2, .inl f), (3, .inl b)], [], rm g0 s n)) (st2 := (80, [(0, .inr (.inr 0)), (1, .inl 8), (2, .inl f), (3, .inl b)], [], rm g0 s n)) rfl trivial ⟨⟨by omega, by omega⟩, ⟨by omega, by omega⟩⟩ (fun c_77_2 => ?_) (fun c_77_2 => ?_)
    · exact (by exfalso; omega)
    · refine pg_ca 5 (L := [0 ≤ b ∧ b < (1728 : Int)]) (Mc := pm_T_kOf) (as := [.inr (.inr 0), .inl (g0 3 b.toNat)]) (h0 := rm g0 s n) (pc := 90) (lv := [(0, .inr (.inr 0)), (1, .inl 8), (2, .inl f), (3, .inl b)]) (rest := []) rfl ⟨by omega, by omega⟩ (re_kOf (g := g0) (s := s) hn (g0 3 b.toNat) ⟨by omega, by omega⟩) ?_
      intro r_1 h_1 e_1; rw [e_1.1, e_1.2]
      refine pg_br 0 (L := []) (P := pg_inR ((g0 3 b.toNat) / (n * n))) (c := ¬ ((g0 3 b.toNat) / (n * n)) = 0) (st1 := (99, [(0, .inr (.inr 0)), (1, .inl 8), (2, .inl f), (3, .inl b)], [], rm g0 s n)) (st2 := (93, [(0, .inr (.inr 0)), (1, .inl 8), (2, .inl f), (3, .inl b)], [], rm g0 s n)) rfl trivial ⟨by omega, by omega⟩ (fun c_90_3 => ?_) (fun c_90_3 => ?_)
      · refine pg_go 4 (L := []) (st' := (72, [(0, .inr (.inr 0)), (1, .inl 8), (2, .inl f), (3, .inl (b + 1))], [], rm g0 s n)) rfl trivial ?_
        refine ih _ _ (by omega) (by omega) ?_
        rw [ek]
        simp only [pg_cn]
        rw [pg_b_f (by omega), hF, Int.add_zero]
      · refine pg_go 7 (L := []) (st' := (72, [(0, .inr (.inr 0)), (1, .inl 8), (2, .inl (f + 1)), (3, .inl (b + 1))], [], rm g0 s n)) rfl trivial ?_
        refine ih _ _ (by omega) (by omega) ?_
        rw [ek]
        simp only [pg_cn]
        rw [pg_b_t (by omega), hF]
set_option maxRecDepth 20000 in
set_option maxHeartbeats 4000000 in
theorem re_cm9_l {g0 : pg_H} {s n : Int} (hB0 : rm_B g0 s n) (hC0 : ri_C g0) (hS0 : ri_S g0 s n) (h70 : g0 0 7 = 1) : ∀ (d : Nat) (g : pg_H) (f b : Int) (hd : b + (d : Int) = 2 * mt_rd s * (n * n)) (hb : 0 ≤ b) (hf : rf [13] [15, 16] g0 g) (hF : f = pg_cn (fun m : Nat => mt_chg (g0 1) s n ((m : Int) / (n * n)) ((m : Int) / n % n) ((m : Int) % n)) b.toNat), pg_Good false pm_T_countMoves (fun r h' => ∃ g', h' = rm g' s n ∧ rf [3, 13] [6, 7, 15, 16] g0 g' ∧ g' 0 7 = 1 ∧ ri_S g' s n ∧ r = some (.inl (pg_cn (fun m => mt_chg (g0 1) s n ((m : Int) / (n * n)) ((m : Int) / n % n) ((m : Int) % n)) (2 * mt_rd s * (n * n)).toNat))) (118, [(0, .inr (.inr 0)), (1, .inl 9), (2, .inl f), (3, .inl b)], [], rm g s n) := by
  intro d
  induction d with
  | zero =>
    intro g f b hd hb hf hF
    have hB := rm_B_fr hB0 hf (by decide)
    have hC := ri_C_fr hC0 hf (by decide)
    obtain ⟨hs, hn, -⟩ := id hB
    obtain ⟨hn1, hn2⟩ := id hn
    have hr := mt_rd_or hs
    have hnn := mt_nn hn1 hn2
    have hN := mt_2rn hs hn
    have e1 : g 1 = g0 1 := hf.1 1 (by decide) (by decide)
    have hcb := pg_cn_bd (mt_sm (g0 1) s n) (2 * mt_rd s * (n * n)).toNat
    have h6 : g0 0 6 = pg_cn (mt_sm (g0 1) s n) (2 * mt_rd s * (n * n)).toNat := hS0.1
    have eN : 2 * mt_rd s * n * n = 2 * mt_rd s * (n * n) := Int.mul_assoc _ _ _
    refine pg_ca 3 (L := []) (Mc := pm_T_round) (as := [.inr (.inr 0)]) (h0 := rm g s n) (pc := 124) (lv := [(0, .inr (.inr 0)), (1, .inl 9), (2, .inl f), (3, .inl b)]) (rest := [.inl 2, .inl b]) rfl trivial (re_round (g := g) (n := n) hs) ?_
    intro r_1 h_1 e_1; rw [e_1.1, e_1.2]
    refine pg_br 7 (L := []) (P := pg_inR b ∧ pg_inR (((2 * (mt_rd s)) * n) * n)) (c := (((2 * (mt_rd s)) * n) * n) ≤ b) (st1 := (174, [(0, .inr (.inr 0)), (1, .inl 9), (2, .inl f), (3, .inl b)], [], rm g s n)) (st2 := (138, [(0, .inr (.inr 0)), (1, .inl 9), (2, .inl f), (3, .inl b)], [], rm g s n)) rfl trivial ⟨⟨by omega, by omega⟩, ⟨by omega, by omega⟩⟩ (fun c_135_1 => ?_) (fun c_135_1 => ?_)
    · refine pg_re 2 (L := []) (r := some (.inl f)) (h0 := rm g s n) rfl trivial ?_
      refine ⟨g, rfl, rf_w hf (by decide) (by decide), by rw [hf.2 7 (by decide)]; exact h70, ri_S_fr hS0 hf (by decide), ?_⟩
      rw [hF, show 2 * mt_rd s * (n * n) = b by omega]
    · exact (by exfalso; omega)
  | succ d ih =>
    intro g f b hd hb hf hF
    have hB := rm_B_fr hB0 hf (by decide)
    have hC := ri_C_fr hC0 hf (by decide)
    obtain ⟨hs, hn, -⟩ := id hB
    obtain ⟨hn1, hn2⟩ := id hn
    have hr := mt_rd_or hs
    have hnn := mt_nn hn1 hn2
    have hN := mt_2rn hs hn
    have e1 : g 1 = g0 1 := hf.1 1 (by decide) (by decide)
    have hcb := pg_cn_bd (mt_sm (g0 1) s n) (2 * mt_rd s * (n * n)).toNat
    have h6 : g0 0 6 = pg_cn (mt_sm (g0 1) s n) (2 * mt_rd s * (n * n)).toNat := hS0.1
    have eN : 2 * mt_rd s * n * n = 2 * mt_rd s * (n * n) := Int.mul_assoc _ _ _
    have hka := mt_kof hn1 (show 0 ≤ b ∧ b < 2 * mt_rd s * (n * n) by omega)
    have hua := mt_mod hn1 (b / n)
    have hva := mt_mod hn1 b
    have ek : (b + 1).toNat = b.toNat + 1 := by omega
    have em : ((b.toNat : Nat) : Int) = b := by omega
    have hfb := pg_cn_bd (fun m : Nat => mt_chg (g0 1) s n ((m : Int) / (n * n)) ((m : Int) / n % n) ((m : Int) % n)) b.toNat
    refine pg_ca 3 (L := []) (Mc := pm_T_round) (as := [.inr (.inr 0)]) (h0 := rm g s n) (pc := 124) (lv := [(0, .inr (.inr 0)), (1, .inl 9), (2, .inl f), (3, .inl b)]) (rest := [.inl 2, .inl b]) rfl trivial (re_round (g := g) (n := n) hs) ?_
    intro r_1 h_1 e_1; rw [e_1.1, e_1.2]
    refine pg_br 7 (L := []) (P := pg_inR b ∧ pg_inR (((2 * (mt_rd s)) * n) * n)) (c := (((2 * (mt_rd s)) * n) * n) ≤ b) (st1 := (174, [(0, .inr (.inr 0)), (1, .inl 9), (2, .inl f), (3, .inl b)], [], rm g s n)) (st2 := (138, [(0, .inr (.inr 0)), (1, .inl 9), (2, .inl f), (3, .inl b)], [], rm g s n)) rfl trivial ⟨⟨by omega, by omega⟩, ⟨by omega, by omega⟩⟩ (fun c_135_2 => ?_) (fun c_135_2 => ?_)
    · exact (by exfalso; omega)
    · refine pg_ca 3 (L := []) (Mc := pm_T_kOf) (as := [.inr (.inr 0), .inl b]) (h0 := rm g s n) (pc := 144) (lv := [(0, .inr (.inr 0)), (1, .inl 9), (2, .inl f), (3, .inl b)]) (rest := [.inr (.inr 0)]) rfl trivial (re_kOf (g := g) (s := s) hn b ⟨by omega, by omega⟩) ?_
      intro r_1 h_1 e_1; rw [e_1.1, e_1.2]
      refine pg_ca 2 (L := []) (Mc := pm_T_uOf) (as := [.inr (.inr 0), .inl b]) (h0 := rm g s n) (pc := 149) (lv := [(0, .inr (.inr 0)), (1, .inl 9), (2, .inl f), (3, .inl b)]) (rest := [.inl (b / (n * n)), .inr (.inr 0)]) rfl trivial (re_uOf (g := g) (s := s) hn b ⟨by omega, by omega⟩) ?_
      intro r_1 h_1 e_1; rw [e_1.1, e_1.2]
      refine pg_ca 2 (L := []) (Mc := pm_T_vOf) (as := [.inr (.inr 0), .inl b]) (h0 := rm g s n) (pc := 154) (lv := [(0, .inr (.inr 0)), (1, .inl 9), (2, .inl f), (3, .inl b)]) (rest := [.inl (b / n % n), .inl (b / (n * n)), .inr (.inr 0)]) rfl trivial (re_vOf (g := g) (s := s) hn b ⟨by omega, by omega⟩) ?_
      intro r_1 h_1 e_1; rw [e_1.1, e_1.2]
      refine pg_ca 0 (L := []) (Mc := pm_T_isChange) (as := [.inr (.inr 0), .inl (b / (n * n)), .inl (b / n % n), .inl (b % n)]) (h0 := rm g s n) (pc := 157) (lv := [(0, .inr (.inr 0)), (1, .inl 9), (2, .inl f), (3, .inl b)]) (rest := []) rfl trivial (re_isChange (g := g) hB hC (b / (n * n)) (b / n % n) (b % n) ⟨by omega, by omega⟩ ⟨by omega, by omega⟩ ⟨by omega, by omega⟩) ?_
      intro r_1 h_1 e_1; obtain ⟨g36, z36, er_, eh_, ef36, ez36⟩ := e_1; rw [er_, eh_]; have hB36 := rm_B_fr hB ef36 (by decide); have hC36 := ri_C_fr hC ef36 (by decide)
      refine pg_br 0 (L := []) (P := pg_inR z36) (c := z36 = 0) (st1 := (166, [(0, .inr (.inr 0)), (1, .inl 9), (2, .inl f), (3, .inl b)], [], rm g36 s n)) (st2 := (160, [(0, .inr (.inr 0)), (1, .inl 9), (2, .inl f), (3, .inl b)], [], rm g36 s n)) rfl trivial ⟨by omega, by omega⟩ (fun c_157_3 => ?_) (fun c_157_3 => ?_)
      · refine pg_go 4 (L := []) (st' := (118, [(0, .inr (.inr 0)), (1, .inl 9), (2, .inl f), (3, .inl (b + 1))], [], rm g36 s n)) rfl trivial ?_
        rw [e1] at ez36
        refine ih _ _ _ (by omega) (by omega) (rf_tr hf ef36 (by decide) (by decide)) ?_
        rw [ek]
        simp only [pg_cn]
        rw [em]
        rcases ez36 with ⟨d1, d2, d3⟩ | ⟨d1, d2⟩
        · exfalso; omega
        · rw [pg_b_f d2, hF, Int.add_zero]
      · refine pg_go 7 (L := []) (st' := (118, [(0, .inr (.inr 0)), (1, .inl 9), (2, .inl (f + 1)), (3, .inl (b + 1))], [], rm g36 s n)) rfl trivial ?_
        rw [e1] at ez36
        refine ih _ _ _ (by omega) (by omega) (rf_tr hf ef36 (by decide) (by decide)) ?_
        rw [ek]
        simp only [pg_cn]
        rw [em]
        rcases ez36 with ⟨d1, d2, d3⟩ | ⟨d1, d2⟩
        · rw [pg_b_t d2, hF]
        · exfalso; omega
set_option maxRecDepth 20000 in
set_option maxHeartbeats 4000000 in
theorem re_cm10_l {g0 : pg_H} {s n : Int} (hB0 : rm_B g0 s n) (hC0 : ri_C g0) (hS0 : ri_S g0 s n) (h70 : g0 0 7 = 1) : ∀ (d : Nat) (g : pg_H) (f b : Int) (hd : b + (d : Int) = n * n) (hb : 0 ≤ b) (hf : rf [3] [6, 7, 15, 16] g0 g) (hK : ri_K g s n) (h7 : g 0 7 = 1) (hF : f = pg_cn (fun j : Nat => mt_lo (g0 1) s n ((j : Int) % n) ((j : Int) / n) = (j : Int)) b.toNat), pg_Good false pm_T_countMoves (fun r h' => ∃ g', h' = rm g' s n ∧ rf [3, 13] [6, 7, 15, 16] g0 g' ∧ g' 0 7 = 1 ∧ ri_S g' s n ∧ r = some (.inl (pg_cn (fun j => mt_lo (g0 1) s n ((j : Int) % n) ((j : Int) / n) = (j : Int)) (n * n).toNat))) (179, [(0, .inr (.inr 0)), (1, .inl 10), (2, .inl f), (3, .inl b)], [], rm g s n) := by
  intro d
  induction d with
  | zero =>
    intro g f b hd hb hf hK h7 hF
    have hB := rm_B_fr hB0 hf (by decide)
    have hC := ri_C_fr hC0 hf (by decide)
    obtain ⟨hs, hn, -⟩ := id hB
    obtain ⟨hn1, hn2⟩ := id hn
    have hr := mt_rd_or hs
    have hnn := mt_nn hn1 hn2
    have hN := mt_2rn hs hn
    have e1 : g 1 = g0 1 := hf.1 1 (by decide) (by decide)
    have hcb := pg_cn_bd (mt_sm (g0 1) s n) (2 * mt_rd s * (n * n)).toNat
    have h6 : g0 0 6 = pg_cn (mt_sm (g0 1) s n) (2 * mt_rd s * (n * n)).toNat := hS0.1
    refine pg_br 6 (L := []) (P := pg_inR b ∧ pg_inR (n * n)) (c := (n * n) ≤ b) (st1 := (226, [(0, .inr (.inr 0)), (1, .inl 10), (2, .inl f), (3, .inl b)], [], rm g s n)) (st2 := (192, [(0, .inr (.inr 0)), (1, .inl 10), (2, .inl f), (3, .inl b)], [], rm g s n)) rfl trivial ⟨⟨by omega, by omega⟩, ⟨by omega, by omega⟩⟩ (fun c_189_1 => ?_) (fun c_189_1 => ?_)
    · refine pg_re 1 (L := []) (r := some (.inl f)) (h0 := rm g s n) rfl trivial ?_
      refine ⟨g, rfl, rf_w hf (by decide) (by decide), h7, ?_, ?_⟩
      · rcases hK with h | h
        · omega
        · exact h.2
      · rw [hF, show n * n = b by omega]
    · exact (by exfalso; omega)
  | succ d ih =>
    intro g f b hd hb hf hK h7 hF
    have hB := rm_B_fr hB0 hf (by decide)
    have hC := ri_C_fr hC0 hf (by decide)
    obtain ⟨hs, hn, -⟩ := id hB
    obtain ⟨hn1, hn2⟩ := id hn
    have hr := mt_rd_or hs
    have hnn := mt_nn hn1 hn2
    have hN := mt_2rn hs hn
    have e1 : g 1 = g0 1 := hf.1 1 (by decide) (by decide)
    have hcb := pg_cn_bd (mt_sm (g0 1) s n) (2 * mt_rd s * (n * n)).toNat
    have h6 : g0 0 6 = pg_cn (mt_sm (g0 1) s n) (2 * mt_rd s * (n * n)).toNat := hS0.1
    have et := pg_tmod_nn (y := n) hb
    have ed := pg_tdiv_nn (y := n) hb
    have h1 := mt_mod hn1 b
    have h2 := mt_row_bd hn1 (show 0 ≤ b ∧ b < n * n by omega)
    have ek : (b + 1).toNat = b.toNat + 1 := by omega
    have em : ((b.toNat : Nat) : Int) = b := by omega
    have hlq := mt_lo_bd (g0 1) s n (Int.tmod b n) (Int.tdiv b n)
    have hfb := pg_cn_bd (fun j : Nat => mt_lo (g0 1) s n ((j : Int) % n) ((j : Int) / n) = (j : Int)) b.toNat
    refine pg_br 6 (L := []) (P := pg_inR b ∧ pg_inR (n * n)) (c := (n * n) ≤ b) (st1 := (226, [(0, .inr (.inr 0)), (1, .inl 10), (2, .inl f), (3, .inl b)], [], rm g s n)) (st2 := (192, [(0, .inr (.inr 0)), (1, .inl 10), (2, .inl f), (3, .inl b)], [], rm g s n)) rfl trivial ⟨⟨by omega, by omega⟩, ⟨by omega, by omega⟩⟩ (fun c_189_2 => ?_) (fun c_189_2 => ?_)
    · exact (by exfalso; omega)
    · refine pg_ca 9 (L := [n ≠ 0 ∧ pg_inR b ∧ pg_inR n, n ≠ 0 ∧ pg_inR b ∧ pg_inR n]) (Mc := pm_T_leastOf) (as := [.inr (.inr 0), .inl (Int.tmod b n), .inl (Int.tdiv b n)]) (h0 := rm g s n) (pc := 208) (lv := [(0, .inr (.inr 0)), (1, .inl 10), (2, .inl f), (3, .inl b)]) (rest := []) rfl ⟨⟨by omega, ⟨by omega, by omega⟩, ⟨by omega, by omega⟩⟩, ⟨by omega, ⟨by omega, by omega⟩, ⟨by omega, by omega⟩⟩⟩ (re_leastOf (g := g) hB hC hK (Int.tmod b n) (Int.tdiv b n) ⟨by omega, by omega⟩ ⟨by omega, by omega⟩) ?_
      intro r_1 h_1 e_1; obtain ⟨er_, g37, eh_, ef37, hK37, h737⟩ := e_1; rw [e1] at er_; rw [er_, eh_]; have hB37 := rm_B_fr hB ef37 (by decide); have hC37 := ri_C_fr hC ef37 (by decide); have hlb37 := mt_lo_bd (g0 1) s n (Int.tmod b n) (Int.tdiv b n)
      refine pg_br 1 (L := []) (P := pg_inR (mt_lo (g0 1) s n (Int.tmod b n) (Int.tdiv b n)) ∧ pg_inR b) (c := ¬ (mt_lo (g0 1) s n (Int.tmod b n) (Int.tdiv b n)) = b) (st1 := (218, [(0, .inr (.inr 0)), (1, .inl 10), (2, .inl f), (3, .inl b)], [], rm g37 s n)) (st2 := (212, [(0, .inr (.inr 0)), (1, .inl 10), (2, .inl f), (3, .inl b)], [], rm g37 s n)) rfl trivial ⟨⟨by omega, by omega⟩, ⟨by omega, by omega⟩⟩ (fun c_209_3 => ?_) (fun c_209_3 => ?_)
      · refine pg_go 4 (L := []) (st' := (179, [(0, .inr (.inr 0)), (1, .inl 10), (2, .inl f), (3, .inl (b + 1))], [], rm g37 s n)) rfl trivial ?_
        refine ih _ _ _ (by omega) (by omega) (rf_tr hf ef37 (by decide) (by decide)) hK37 h737 ?_
        rw [ek]
        simp only [pg_cn]
        rw [em, ← et, ← ed]
        rw [pg_b_f (by omega), hF, Int.add_zero]
      · refine pg_go 7 (L := []) (st' := (179, [(0, .inr (.inr 0)), (1, .inl 10), (2, .inl (f + 1)), (3, .inl (b + 1))], [], rm g37 s n)) rfl trivial ?_
        refine ih _ _ _ (by omega) (by omega) (rf_tr hf ef37 (by decide) (by decide)) hK37 h737 ?_
        rw [ek]
        simp only [pg_cn]
        rw [em, ← et, ← ed]
        rw [pg_b_t (by omega), hF]
theorem re_cm6 {g : pg_H} {s n : Int} (hB : rm_B g s n) (hC : ri_C g) (hS : ri_S g s n) (h7 : g 0 7 = 1) : pg_Sem false pm_T_countMoves [.inr (.inr 0), .inl 6] (rm g s n) (fun r h' => ∃ g', h' = rm g' s n ∧ rf [3, 13] [6, 7, 15, 16] g g' ∧ g' 0 7 = 1 ∧ ri_S g' s n ∧ r = some (.inl (pg_cn (fun m => mt_sm (g 1) s n m ∧ mt_k1 (g 1) s n m) (2 * mt_rd s * (n * n)).toNat))) := by
  obtain ⟨hs, hn, hT⟩ := id hB
  obtain ⟨hn1, hn2⟩ := id hn
  have hr := mt_rd_or hs
  have hnn := mt_nn hn1 hn2
  have hN := mt_2rn hs hn
  have hcb := pg_cn_bd (mt_sm (g 1) s n) (2 * mt_rd s * (n * n)).toNat
  have h6 : g 0 6 = pg_cn (mt_sm (g 1) s n) (2 * mt_rd s * (n * n)).toNat := hS.1
  refine pg_Sem_of pm_T_countMoves_f rfl ?_
  refine pg_br 4 (L := []) (P := pg_inR 6 ∧ pg_inR 6) (c := ¬ 6 = 6) (st1 := (64, [(0, .inr (.inr 0)), (1, .inl 6), (2, .inl 0)], [], rm g s n)) (st2 := (8, [(0, .inr (.inr 0)), (1, .inl 6), (2, .inl 0)], [], rm g s n)) rfl trivial ⟨⟨by decide, by decide⟩, ⟨by decide, by decide⟩⟩ (fun c_5_1 => ?_) (fun c_5_1 => ?_)
  · exact absurd c_5_1 (by decide)
  · refine pg_go 2 (L := []) (st' := (10, [(0, .inr (.inr 0)), (1, .inl 6), (2, .inl 0), (3, .inl 0)], [], rm g s n)) rfl trivial ?_
    exact re_cm6_l hB hC hS h7 (g 0 6).toNat 0 0 (by omega) (by omega) rfl
theorem re_cm8 {g : pg_H} {s n : Int} (hB : rm_B g s n) (hC : ri_C g) (hS : ri_S g s n) (h7 : g 0 7 = 1) : pg_Sem false pm_T_countMoves [.inr (.inr 0), .inl 8] (rm g s n) (fun r h' => ∃ g', h' = rm g' s n ∧ rf [3, 13] [6, 7, 15, 16] g g' ∧ g' 0 7 = 1 ∧ ri_S g' s n ∧ r = some (.inl (pg_cn (fun m => mt_sm (g 1) s n m ∧ (m : Int) / (n * n) = 0) (2 * mt_rd s * (n * n)).toNat))) := by
  obtain ⟨hs, hn, hT⟩ := id hB
  obtain ⟨hn1, hn2⟩ := id hn
  have hr := mt_rd_or hs
  have hnn := mt_nn hn1 hn2
  have hN := mt_2rn hs hn
  have hcb := pg_cn_bd (mt_sm (g 1) s n) (2 * mt_rd s * (n * n)).toNat
  have h6 : g 0 6 = pg_cn (mt_sm (g 1) s n) (2 * mt_rd s * (n * n)).toNat := hS.1
  refine pg_Sem_of pm_T_countMoves_f rfl ?_
  refine pg_br 4 (L := []) (P := pg_inR 8 ∧ pg_inR 6) (c := ¬ 8 = 6) (st1 := (64, [(0, .inr (.inr 0)), (1, .inl 8), (2, .inl 0)], [], rm g s n)) (st2 := (8, [(0, .inr (.inr 0)), (1, .inl 8), (2, .inl 0)], [], rm g s n)) rfl trivial ⟨⟨by decide, by decide⟩, ⟨by decide, by decide⟩⟩ (fun c_5_1 => ?_) (fun c_5_1 => ?_)
  · refine pg_br 2 (L := []) (P := pg_inR 8 ∧ pg_inR 8) (c := ¬ 8 = 8) (st1 := (110, [(0, .inr (.inr 0)), (1, .inl 8), (2, .inl 0)], [], rm g s n)) (st2 := (70, [(0, .inr (.inr 0)), (1, .inl 8), (2, .inl 0)], [], rm g s n)) rfl trivial ⟨⟨by decide, by decide⟩, ⟨by decide, by decide⟩⟩ (fun c_67_2 => ?_) (fun c_67_2 => ?_)
    · exact absurd c_67_2 (by decide)
    · refine pg_go 2 (L := []) (st' := (72, [(0, .inr (.inr 0)), (1, .inl 8), (2, .inl 0), (3, .inl 0)], [], rm g s n)) rfl trivial ?_
      exact re_cm8_l hB hC hS h7 (g 0 6).toNat 0 0 (by omega) (by omega) rfl
  · exact absurd c_5_1 (by decide)
theorem re_cm9 {g : pg_H} {s n : Int} (hB : rm_B g s n) (hC : ri_C g) (hS : ri_S g s n) (h7 : g 0 7 = 1) : pg_Sem false pm_T_countMoves [.inr (.inr 0), .inl 9] (rm g s n) (fun r h' => ∃ g', h' = rm g' s n ∧ rf [3, 13] [6, 7, 15, 16] g g' ∧ g' 0 7 = 1 ∧ ri_S g' s n ∧ r = some (.inl (pg_cn (fun m => mt_chg (g 1) s n ((m : Int) / (n * n)) ((m : Int) / n % n) ((m : Int) % n)) (2 * mt_rd s * (n * n)).toNat))) := by
  obtain ⟨hs, hn, hT⟩ := id hB
  obtain ⟨hn1, hn2⟩ := id hn
  have hr := mt_rd_or hs
  have hnn := mt_nn hn1 hn2
  have hN := mt_2rn hs hn
  have hcb := pg_cn_bd (mt_sm (g 1) s n) (2 * mt_rd s * (n * n)).toNat
  have h6 : g 0 6 = pg_cn (mt_sm (g 1) s n) (2 * mt_rd s * (n * n)).toNat := hS.1
  refine pg_Sem_of pm_T_countMoves_f rfl ?_
  refine pg_br 4 (L := []) (P := pg_inR 9 ∧ pg_inR 6) (c := ¬ 9 = 6) (st1 := (64, [(0, .inr (.inr 0)), (1, .inl 9), (2, .inl 0)], [], rm g s n)) (st2 := (8, [(0, .inr (.inr 0)), (1, .inl 9), (2, .inl 0)], [], rm g s n)) rfl trivial ⟨⟨by decide, by decide⟩, ⟨by decide, by decide⟩⟩ (fun c_5_1 => ?_) (fun c_5_1 => ?_)
  · refine pg_br 2 (L := []) (P := pg_inR 9 ∧ pg_inR 8) (c := ¬ 9 = 8) (st1 := (110, [(0, .inr (.inr 0)), (1, .inl 9), (2, .inl 0)], [], rm g s n)) (st2 := (70, [(0, .inr (.inr 0)), (1, .inl 9), (2, .inl 0)], [], rm g s n)) rfl trivial ⟨⟨by decide, by decide⟩, ⟨by decide, by decide⟩⟩ (fun c_67_2 => ?_) (fun c_67_2 => ?_)
    · refine pg_br 2 (L := []) (P := pg_inR 9 ∧ pg_inR 9) (c := ¬ 9 = 9) (st1 := (177, [(0, .inr (.inr 0)), (1, .inl 9), (2, .inl 0)], [], rm g s n)) (st2 := (116, [(0, .inr (.inr 0)), (1, .inl 9), (2, .inl 0)], [], rm g s n)) rfl trivial ⟨⟨by decide, by decide⟩, ⟨by decide, by decide⟩⟩ (fun c_113_3 => ?_) (fun c_113_3 => ?_)
      · exact absurd c_113_3 (by decide)
      · refine pg_go 2 (L := []) (st' := (118, [(0, .inr (.inr 0)), (1, .inl 9), (2, .inl 0), (3, .inl 0)], [], rm g s n)) rfl trivial ?_
        exact re_cm9_l hB hC hS h7 (2 * mt_rd s * (n * n)).toNat g 0 0 (by omega) (by omega) (rf_rf _ _ _) rfl
    · exact absurd c_67_2 (by decide)
  · exact absurd c_5_1 (by decide)
theorem re_cm10 {g : pg_H} {s n : Int} (hB : rm_B g s n) (hC : ri_C g) (hS : ri_S g s n) (h7 : g 0 7 = 1) : pg_Sem false pm_T_countMoves [.inr (.inr 0), .inl 10] (rm g s n) (fun r h' => ∃ g', h' = rm g' s n ∧ rf [3, 13] [6, 7, 15, 16] g g' ∧ g' 0 7 = 1 ∧ ri_S g' s n ∧ r = some (.inl (pg_cn (fun j => mt_lo (g 1) s n ((j : Int) % n) ((j : Int) / n) = (j : Int)) (n * n).toNat))) := by
  obtain ⟨hs, hn, hT⟩ := id hB
  obtain ⟨hn1, hn2⟩ := id hn
  have hr := mt_rd_or hs
  have hnn := mt_nn hn1 hn2
  have hN := mt_2rn hs hn
  have hcb := pg_cn_bd (mt_sm (g 1) s n) (2 * mt_rd s * (n * n)).toNat
  have h6 : g 0 6 = pg_cn (mt_sm (g 1) s n) (2 * mt_rd s * (n * n)).toNat := hS.1
  refine pg_Sem_of pm_T_countMoves_f rfl ?_
  refine pg_br 4 (L := []) (P := pg_inR 10 ∧ pg_inR 6) (c := ¬ 10 = 6) (st1 := (64, [(0, .inr (.inr 0)), (1, .inl 10), (2, .inl 0)], [], rm g s n)) (st2 := (8, [(0, .inr (.inr 0)), (1, .inl 10), (2, .inl 0)], [], rm g s n)) rfl trivial ⟨⟨by decide, by decide⟩, ⟨by decide, by decide⟩⟩ (fun c_5_1 => ?_) (fun c_5_1 => ?_)
  · refine pg_br 2 (L := []) (P := pg_inR 10 ∧ pg_inR 8) (c := ¬ 10 = 8) (st1 := (110, [(0, .inr (.inr 0)), (1, .inl 10), (2, .inl 0)], [], rm g s n)) (st2 := (70, [(0, .inr (.inr 0)), (1, .inl 10), (2, .inl 0)], [], rm g s n)) rfl trivial ⟨⟨by decide, by decide⟩, ⟨by decide, by decide⟩⟩ (fun c_67_2 => ?_) (fun c_67_2 => ?_)
    · refine pg_br 2 (L := []) (P := pg_inR 10 ∧ pg_inR 9) (c := ¬ 10 = 9) (st1 := (177, [(0, .inr (.inr 0)), (1, .inl 10), (2, .inl 0)], [], rm g s n)) (st2 := (116, [(0, .inr (.inr 0)), (1, .inl 10), (2, .inl 0)], [], rm g s n)) rfl trivial ⟨⟨by decide, by decide⟩, ⟨by decide, by decide⟩⟩ (fun c_113_3 => ?_) (fun c_113_3 => ?_)
      · refine pg_go 2 (L := []) (st' := (179, [(0, .inr (.inr 0)), (1, .inl 10), (2, .inl 0), (3, .inl 0)], [], rm g s n)) rfl trivial ?_
        exact re_cm10_l hB hC hS h7 (n * n).toNat g 0 0 (by omega) (by omega) (rf_rf _ _ _) (Or.inr ⟨h7, hS⟩) h7 rfl
      · exact absurd c_113_3 (by decide)
    · exact absurd c_67_2 (by decide)
  · exact absurd c_5_1 (by decide)
set_option maxRecDepth 20000 in
set_option maxHeartbeats 4000000 in
theorem re_ct2_l {g : pg_H} {s n : Int} (hB : rm_B g s n) (hC : ri_C g) (hS : ri_S g s n) (h7 : g 0 7 = 1) (hJ : ri_J g s n) : ∀ (d : Nat) (f c : Int) (hd : c + (d : Int) = 10) (hc : 0 ≤ c) (hF : f = pg_cn (fun c : Nat => ri_hx (g 1) (c : Int) (n * n).toNat) c.toNat), pg_Good false pm_T_count (fun r h' => ∃ (g' : pg_H) (z : Int), h' = rm g' s n ∧ rf [3, 4, 5, 6, 7, 8, 13] [6, 7, 8, 13, 15, 16] g g' ∧ ri_K g' s n ∧ ri_J g' s n ∧ r = some (.inl z) ∧ (z = pg_cn (fun c => ri_hx (g 1) (c : Int) (n * n).toNat) 10)) (80, [(0, .inr (.inr 0)), (1, .inl 2), (2, .inl f), (3, .inl c)], [], rm g s n) := by
  intro d
  induction d with
  | zero =>
    intro f c hd hc hF
    obtain ⟨hs, hn, hT⟩ := id hB
    obtain ⟨hn1, hn2⟩ := id hn
    have hr := mt_rd_or hs
    refine pg_br 2 (L := []) (P := pg_inR c ∧ pg_inR 10) (c := 10 ≤ c) (st1 := (108, [(0, .inr (.inr 0)), (1, .inl 2), (2, .inl f), (3, .inl c)], [], rm g s n)) (st2 := (86, [(0, .inr (.inr 0)), (1, .inl 2), (2, .inl f), (3, .inl c)], [], rm g s n)) rfl trivial ⟨⟨by omega, by omega⟩, ⟨by decide, by decide⟩⟩ (fun c_83_1 => ?_) (fun c_83_1 => ?_)
    · refine pg_re 1 (L := []) (r := some (.inl f)) (h0 := rm g s n) rfl trivial ?_
      exact ⟨g, _, rfl, rf_rf _ _ _, Or.inr ⟨h7, hS⟩, hJ, rfl, by rw [hF, show c.toNat = 10 by omega]⟩
    · exact (by exfalso; omega)
  | succ d ih =>
    intro f c hd hc hF
    obtain ⟨hs, hn, hT⟩ := id hB
    obtain ⟨hn1, hn2⟩ := id hn
    have hr := mt_rd_or hs
    have ek : (c + 1).toNat = c.toNat + 1 := by omega
    have em : ((c.toNat : Nat) : Int) = c := by omega
    have hfb := pg_cn_bd (fun c : Nat => ri_hx (g 1) (c : Int) (n * n).toNat) c.toNat
    refine pg_br 2 (L := []) (P := pg_inR c ∧ pg_inR 10) (c := 10 ≤ c) (st1 := (108, [(0, .inr (.inr 0)), (1, .inl 2), (2, .inl f), (3, .inl c)], [], rm g s n)) (st2 := (86, [(0, .inr (.inr 0)), (1, .inl 2), (2, .inl f), (3, .inl c)], [], rm g s n)) rfl trivial ⟨⟨by omega, by omega⟩, ⟨by decide, by decide⟩⟩ (fun c_83_2 => ?_) (fun c_83_2 => ?_)
    · exact (by exfalso; omega)
    · refine pg_ca 2 (L := []) (Mc := pm_T_hasColour) (as := [.inr (.inr 0), .inl c]) (h0 := rm g s n) (pc := 91) (lv := [(0, .inr (.inr 0)), (1, .inl 2), (2, .inl f), (3, .inl c)]) (rest := []) rfl trivial (re_hasColour (g := g) hB hC c ⟨by omega, by omega⟩) ?_
      intro r_1 h_1 e_1; rw [e_1.1, e_1.2]; have hbh := pg_b_or (ri_hx (g 1) c (n * n).toNat)
      refine pg_br 0 (L := []) (P := pg_inR (pg_b (ri_hx (g 1) c (n * n).toNat))) (c := (pg_b (ri_hx (g 1) c (n * n).toNat)) = 0) (st1 := (100, [(0, .inr (.inr 0)), (1, .inl 2), (2, .inl f), (3, .inl c)], [], rm g s n)) (st2 := (94, [(0, .inr (.inr 0)), (1, .inl 2), (2, .inl f), (3, .inl c)], [], rm g s n)) rfl trivial ⟨by omega, by omega⟩ (fun c_91_3 => ?_) (fun c_91_3 => ?_)
      · refine pg_go 4 (L := []) (st' := (80, [(0, .inr (.inr 0)), (1, .inl 2), (2, .inl f), (3, .inl (c + 1))], [], rm g s n)) rfl trivial ?_
        refine ih _ _ (by omega) (by omega) ?_
        rw [ek]
        simp only [pg_cn]
        rw [em]
        rcases hbh with h1 | h1
        · exfalso; omega
        · rw [pg_b_f h1.1, hF, Int.add_zero]
      · refine pg_go 7 (L := []) (st' := (80, [(0, .inr (.inr 0)), (1, .inl 2), (2, .inl (f + 1)), (3, .inl (c + 1))], [], rm g s n)) rfl trivial ?_
        refine ih _ _ (by omega) (by omega) ?_
        rw [ek]
        simp only [pg_cn]
        rw [em]
        rcases hbh with h1 | h1
        · rw [pg_b_t h1.1, hF]
        · exfalso; omega
set_option maxRecDepth 20000 in
set_option maxHeartbeats 4000000 in
theorem re_ct_0 {g : pg_H} {s n : Int} (hB : rm_B g s n) (hC : ri_C g) (hS : ri_S g s n) (h7 : g 0 7 = 1) (hJ : ri_J g s n) : pg_Good false pm_T_count (fun r h' => ∃ (g' : pg_H) (z : Int), h' = rm g' s n ∧ rf [3, 4, 5, 6, 7, 8, 13] [6, 7, 8, 13, 15, 16] g g' ∧ ri_K g' s n ∧ ri_J g' s n ∧ r = some (.inl z) ∧ (z = s)) (21, [(0, .inr (.inr 0)), (1, .inl 0), (2, .inl 0)], [], rm g s n) := by
  obtain ⟨hs, hn, hT⟩ := id hB
  obtain ⟨hn1, hn2⟩ := id hn
  have hr := mt_rd_or hs
  have hN := mt_2rn hs hn
  have hab : True := trivial
  refine pg_re 4 (L := [pg_inR 0]) (r := some (.inl s)) (h0 := rm g s n) rfl ⟨by decide, by decide⟩ ?_
  exact ⟨g, _, rfl, rf_rf _ _ _, Or.inr ⟨h7, hS⟩, hJ, rfl, rfl⟩
set_option maxRecDepth 20000 in
set_option maxHeartbeats 4000000 in
theorem re_ct_1 {g : pg_H} {s n : Int} (hB : rm_B g s n) (hC : ri_C g) (hS : ri_S g s n) (h7 : g 0 7 = 1) (hJ : ri_J g s n) : pg_Good false pm_T_count (fun r h' => ∃ (g' : pg_H) (z : Int), h' = rm g' s n ∧ rf [3, 4, 5, 6, 7, 8, 13] [6, 7, 8, 13, 15, 16] g g' ∧ ri_K g' s n ∧ ri_J g' s n ∧ r = some (.inl z) ∧ (z = n)) (21, [(0, .inr (.inr 0)), (1, .inl 1), (2, .inl 0)], [], rm g s n) := by
  obtain ⟨hs, hn, hT⟩ := id hB
  obtain ⟨hn1, hn2⟩ := id hn
  have hr := mt_rd_or hs
  have hN := mt_2rn hs hn
  have hab : True := trivial
  refine pg_re 4 (L := [pg_inR 1]) (r := some (.inl n)) (h0 := rm g s n) rfl ⟨by decide, by decide⟩ ?_
  exact ⟨g, _, rfl, rf_rf _ _ _, Or.inr ⟨h7, hS⟩, hJ, rfl, rfl⟩
set_option maxRecDepth 20000 in
set_option maxHeartbeats 4000000 in
theorem re_ct_2 {g : pg_H} {s n : Int} (hB : rm_B g s n) (hC : ri_C g) (hS : ri_S g s n) (h7 : g 0 7 = 1) (hJ : ri_J g s n) : pg_Good false pm_T_count (fun r h' => ∃ (g' : pg_H) (z : Int), h' = rm g' s n ∧ rf [3, 4, 5, 6, 7, 8, 13] [6, 7, 8, 13, 15, 16] g g' ∧ ri_K g' s n ∧ ri_J g' s n ∧ r = some (.inl z) ∧ (z = pg_cn (fun c => ri_hx (g 1) (c : Int) (n * n).toNat) 10)) (21, [(0, .inr (.inr 0)), (1, .inl 2), (2, .inl 0)], [], rm g s n) := by
  obtain ⟨hs, hn, hT⟩ := id hB
  obtain ⟨hn1, hn2⟩ := id hn
  have hr := mt_rd_or hs
  have hN := mt_2rn hs hn
  have hab : True := trivial
  refine pg_go 4 (L := [pg_inR 2]) (st' := (80, [(0, .inr (.inr 0)), (1, .inl 2), (2, .inl 0), (3, .inl 0)], [], rm g s n)) rfl ⟨by decide, by decide⟩ ?_
  exact re_ct2_l hB hC hS h7 hJ 10 0 0 (by omega) (by omega) rfl
set_option maxRecDepth 20000 in
set_option maxHeartbeats 4000000 in
theorem re_ct_3 {g : pg_H} {s n : Int} (hB : rm_B g s n) (hC : ri_C g) (hS : ri_S g s n) (h7 : g 0 7 = 1) (hJ : ri_J g s n) : pg_Good false pm_T_count (fun r h' => ∃ (g' : pg_H) (z : Int), h' = rm g' s n ∧ rf [3, 4, 5, 6, 7, 8, 13] [6, 7, 8, 13, 15, 16] g g' ∧ ri_K g' s n ∧ ri_J g' s n ∧ r = some (.inl z) ∧ (z = g 0 3)) (21, [(0, .inr (.inr 0)), (1, .inl 3), (2, .inl 0)], [], rm g s n) := by
  obtain ⟨hs, hn, hT⟩ := id hB
  obtain ⟨hn1, hn2⟩ := id hn
  have hr := mt_rd_or hs
  have hN := mt_2rn hs hn
  have hab : True := trivial
  refine pg_re 4 (L := [pg_inR 3]) (r := some (.inl (g 0 3))) (h0 := rm g s n) rfl ⟨by decide, by decide⟩ ?_
  exact ⟨g, _, rfl, rf_rf _ _ _, Or.inr ⟨h7, hS⟩, hJ, rfl, rfl⟩
set_option maxRecDepth 20000 in
set_option maxHeartbeats 4000000 in
theorem re_ct_4 {g : pg_H} {s n : Int} (hB : rm_B g s n) (hC : ri_C g) (hS : ri_S g s n) (h7 : g 0 7 = 1) (hJ : ri_J g s n) : pg_Good false pm_T_count (fun r h' => ∃ (g' : pg_H) (z : Int), h' = rm g' s n ∧ rf [3, 4, 5, 6, 7, 8, 13] [6, 7, 8, 13, 15, 16] g g' ∧ ri_K g' s n ∧ ri_J g' s n ∧ r = some (.inl z) ∧ (∃ a c : Int, ri_A (g 1) s n a ∧ ri_Cc (g 1) s n c ∧ z = a * c)) (21, [(0, .inr (.inr 0)), (1, .inl 4), (2, .inl 0)], [], rm g s n) := by
  obtain ⟨hs, hn, hT⟩ := id hB
  obtain ⟨hn1, hn2⟩ := id hn
  have hr := mt_rd_or hs
  have hN := mt_2rn hs hn
  refine pg_ca 3 (L := [pg_inR 4]) (Mc := pm_T_baseA) (as := [.inr (.inr 0)]) (h0 := rm g s n) (pc := 119) (lv := [(0, .inr (.inr 0)), (1, .inl 4), (2, .inl 0)]) (rest := []) rfl ⟨by decide, by decide⟩ (re_baseA hB hC) ?_
  intro r_1 h_1 e_1; obtain ⟨za, er_, hza, ga, eh_, efa⟩ := e_1; rw [er_, eh_]; have hBa := rm_B_fr hB efa (by decide); have hCa := ri_C_fr hC efa (by decide)
  refine pg_ca 1 (L := []) (Mc := pm_T_baseC) (as := [.inr (.inr 0)]) (h0 := rm ga s n) (pc := 123) (lv := [(0, .inr (.inr 0)), (1, .inl 4), (2, .inl 0)]) (rest := [.inl za]) rfl trivial (re_baseC hBa hCa) ?_
  intro r_1 h_1 e_1; obtain ⟨zc, er_, hzc, gc, eh_, efc⟩ := e_1; rw [er_, eh_]
  refine pg_re 1 (L := []) (r := some (.inl (za * zc))) (h0 := rm gc s n) rfl trivial ?_
  have ef := rf_tr efa efc (by decide) (by decide)
  have e7c : gc 0 7 = 1 := by rw [ef.2 7 (by decide)]; exact h7
  have hKc : ri_K gc s n := Or.inr ⟨e7c, ri_S_fr hS ef (by decide)⟩
  rw [efa.1 1 (by decide) (by decide)] at hzc
  exact ⟨gc, _, rfl, rf_w ef (by decide) (by decide), hKc, ri_J_fr hJ ef hKc (fun _ => e7c) (by decide), rfl, za, zc, hza, hzc, rfl⟩
set_option maxRecDepth 20000 in
set_option maxHeartbeats 4000000 in
theorem re_ct_5 {g : pg_H} {s n : Int} (hB : rm_B g s n) (hC : ri_C g) (hS : ri_S g s n) (h7 : g 0 7 = 1) (hJ : ri_J g s n) : pg_Good false pm_T_count (fun r h' => ∃ (g' : pg_H) (z : Int), h' = rm g' s n ∧ rf [3, 4, 5, 6, 7, 8, 13] [6, 7, 8, 13, 15, 16] g g' ∧ ri_K g' s n ∧ ri_J g' s n ∧ r = some (.inl z) ∧ (z = pg_cn (mt_sm (g 1) s n) (2 * mt_rd s * (n * n)).toNat)) (21, [(0, .inr (.inr 0)), (1, .inl 5), (2, .inl 0)], [], rm g s n) := by
  obtain ⟨hs, hn, hT⟩ := id hB
  obtain ⟨hn1, hn2⟩ := id hn
  have hr := mt_rd_or hs
  have hN := mt_2rn hs hn
  have hab : True := trivial
  refine pg_re 4 (L := [pg_inR 5]) (r := some (.inl (g 0 6))) (h0 := rm g s n) rfl ⟨by decide, by decide⟩ ?_
  exact ⟨g, _, rfl, rf_rf _ _ _, Or.inr ⟨h7, hS⟩, hJ, rfl, hS.1⟩
set_option maxRecDepth 20000 in
set_option maxHeartbeats 4000000 in
theorem re_ct_6 {g : pg_H} {s n : Int} (hB : rm_B g s n) (hC : ri_C g) (hS : ri_S g s n) (h7 : g 0 7 = 1) (hJ : ri_J g s n) : pg_Good false pm_T_count (fun r h' => ∃ (g' : pg_H) (z : Int), h' = rm g' s n ∧ rf [3, 4, 5, 6, 7, 8, 13] [6, 7, 8, 13, 15, 16] g g' ∧ ri_K g' s n ∧ ri_J g' s n ∧ r = some (.inl z) ∧ (z = pg_cn (fun m => mt_sm (g 1) s n m ∧ mt_k1 (g 1) s n m) (2 * mt_rd s * (n * n)).toNat)) (21, [(0, .inr (.inr 0)), (1, .inl 6), (2, .inl 0)], [], rm g s n) := by
  obtain ⟨hs, hn, hT⟩ := id hB
  obtain ⟨hn1, hn2⟩ := id hn
  have hr := mt_rd_or hs
  have hN := mt_2rn hs hn
  have hab : True := trivial
  refine pg_ca 4 (L := [pg_inR 6]) (Mc := pm_T_countMoves) (as := [.inr (.inr 0), .inl 6]) (h0 := rm g s n) (pc := 144) (lv := [(0, .inr (.inr 0)), (1, .inl 6), (2, .inl 0)]) (rest := []) rfl ⟨by decide, by decide⟩ (re_cm6 hB hC hS h7) ?_
  intro r_1 h_1 e_1; obtain ⟨gm, eh_, efm, e7m, hSm, er_⟩ := e_1; rw [er_, eh_]
  refine pg_re 0 (L := []) (r := some (.inl (pg_cn (fun m => mt_sm (g 1) s n m ∧ mt_k1 (g 1) s n m) (2 * mt_rd s * (n * n)).toNat))) (h0 := rm gm s n) rfl trivial ?_
  have hKm : ri_K gm s n := Or.inr ⟨e7m, hSm⟩
  exact ⟨gm, _, rfl, rf_w efm (by decide) (by decide), hKm, ri_J_fr hJ efm hKm (fun _ => e7m) (by decide), rfl, rfl⟩
set_option maxRecDepth 20000 in
set_option maxHeartbeats 4000000 in
theorem re_ct_7 {g : pg_H} {s n : Int} (hB : rm_B g s n) (hC : ri_C g) (hS : ri_S g s n) (h7 : g 0 7 = 1) (hJ : ri_J g s n) (hK : ri_K g s n) : pg_Good false pm_T_count (fun r h' => ∃ (g' : pg_H) (z : Int), h' = rm g' s n ∧ rf [3, 4, 5, 6, 7, 8, 13] [6, 7, 8, 13, 15, 16] g g' ∧ ri_K g' s n ∧ ri_J g' s n ∧ r = some (.inl z) ∧ (z = mt_mx (g 1) s n (6 * n * (6 * n)).toNat)) (21, [(0, .inr (.inr 0)), (1, .inl 7), (2, .inl 0)], [], rm g s n) := by
  obtain ⟨hs, hn, hT⟩ := id hB
  obtain ⟨hn1, hn2⟩ := id hn
  have hr := mt_rd_or hs
  have hN := mt_2rn hs hn
  have hab : True := trivial
  refine pg_ca 3 (L := [pg_inR 7]) (Mc := pm_T_findPlaces) (as := [.inr (.inr 0)]) (h0 := rm g s n) (pc := 134) (lv := [(0, .inr (.inr 0)), (1, .inl 7), (2, .inl 0)]) (rest := []) rfl ⟨by decide, by decide⟩ (re_findPlaces (g := g) hB hC hK hJ) ?_
  intro r_1 h_1 e_1; obtain ⟨er_, g38, eh_, ef38, e838, e738, hS38, hP38⟩ := e_1; rw [er_, eh_]; have hB38 := rm_B_fr hB ef38 (by decide); have hC38 := ri_C_fr hC ef38 (by decide)
  have e1_38 : g38 1 = g 1 := ef38.1 1 (by decide) (by decide)
  refine pg_ca 1 (L := []) (Mc := pm_T_mostTurns) (as := [.inr (.inr 0)]) (h0 := rm g38 s n) (pc := 138) (lv := [(0, .inr (.inr 0)), (1, .inl 7), (2, .inl 0)]) (rest := []) rfl trivial (re_mostTurns (g := g38) hB38 hS38 hP38) ?_
  intro r_1 h_1 e_1; rw [e_1.1, e_1.2]
  refine pg_re 0 (L := []) (r := some (.inl (mt_mx (g38 1) s n (6 * n * (6 * n)).toNat))) (h0 := rm g38 s n) rfl trivial ?_
  exact ⟨g38, _, rfl, rf_w ef38 (by decide) (by decide), Or.inr ⟨e738, hS38⟩, Or.inr ⟨e838, e738, hS38, hP38⟩, rfl, by rw [e1_38]⟩
set_option maxRecDepth 20000 in
set_option maxHeartbeats 4000000 in
theorem re_ct_8 {g : pg_H} {s n : Int} (hB : rm_B g s n) (hC : ri_C g) (hS : ri_S g s n) (h7 : g 0 7 = 1) (hJ : ri_J g s n) : pg_Good false pm_T_count (fun r h' => ∃ (g' : pg_H) (z : Int), h' = rm g' s n ∧ rf [3, 4, 5, 6, 7, 8, 13] [6, 7, 8, 13, 15, 16] g g' ∧ ri_K g' s n ∧ ri_J g' s n ∧ r = some (.inl z) ∧ (z = pg_cn (fun m => mt_sm (g 1) s n m ∧ (m : Int) / (n * n) = 0) (2 * mt_rd s * (n * n)).toNat)) (21, [(0, .inr (.inr 0)), (1, .inl 8), (2, .inl 0)], [], rm g s n) := by
  obtain ⟨hs, hn, hT⟩ := id hB
  obtain ⟨hn1, hn2⟩ := id hn
  have hr := mt_rd_or hs
  have hN := mt_2rn hs hn
  have hab : True := trivial
  refine pg_ca 4 (L := [pg_inR 8]) (Mc := pm_T_countMoves) (as := [.inr (.inr 0), .inl 8]) (h0 := rm g s n) (pc := 144) (lv := [(0, .inr (.inr 0)), (1, .inl 8), (2, .inl 0)]) (rest := []) rfl ⟨by decide, by decide⟩ (re_cm8 hB hC hS h7) ?_
  intro r_1 h_1 e_1; obtain ⟨gm, eh_, efm, e7m, hSm, er_⟩ := e_1; rw [er_, eh_]
  refine pg_re 0 (L := []) (r := some (.inl (pg_cn (fun m => mt_sm (g 1) s n m ∧ (m : Int) / (n * n) = 0) (2 * mt_rd s * (n * n)).toNat))) (h0 := rm gm s n) rfl trivial ?_
  have hKm : ri_K gm s n := Or.inr ⟨e7m, hSm⟩
  exact ⟨gm, _, rfl, rf_w efm (by decide) (by decide), hKm, ri_J_fr hJ efm hKm (fun _ => e7m) (by decide), rfl, rfl⟩
set_option maxRecDepth 20000 in
set_option maxHeartbeats 4000000 in
theorem re_ct_9 {g : pg_H} {s n : Int} (hB : rm_B g s n) (hC : ri_C g) (hS : ri_S g s n) (h7 : g 0 7 = 1) (hJ : ri_J g s n) : pg_Good false pm_T_count (fun r h' => ∃ (g' : pg_H) (z : Int), h' = rm g' s n ∧ rf [3, 4, 5, 6, 7, 8, 13] [6, 7, 8, 13, 15, 16] g g' ∧ ri_K g' s n ∧ ri_J g' s n ∧ r = some (.inl z) ∧ (z = pg_cn (fun m => mt_chg (g 1) s n ((m : Int) / (n * n)) ((m : Int) / n % n) ((m : Int) % n)) (2 * mt_rd s * (n * n)).toNat)) (21, [(0, .inr (.inr 0)), (1, .inl 9), (2, .inl 0)], [], rm g s n) := by
  obtain ⟨hs, hn, hT⟩ := id hB
  obtain ⟨hn1, hn2⟩ := id hn
  have hr := mt_rd_or hs
  have hN := mt_2rn hs hn
  have hab : True := trivial
  refine pg_ca 4 (L := [pg_inR 9]) (Mc := pm_T_countMoves) (as := [.inr (.inr 0), .inl 9]) (h0 := rm g s n) (pc := 144) (lv := [(0, .inr (.inr 0)), (1, .inl 9), (2, .inl 0)]) (rest := []) rfl ⟨by decide, by decide⟩ (re_cm9 hB hC hS h7) ?_
  intro r_1 h_1 e_1; obtain ⟨gm, eh_, efm, e7m, hSm, er_⟩ := e_1; rw [er_, eh_]
  refine pg_re 0 (L := []) (r := some (.inl (pg_cn (fun m => mt_chg (g 1) s n ((m : Int) / (n * n)) ((m : Int) / n % n) ((m : Int) % n)) (2 * mt_rd s * (n * n)).toNat))) (h0 := rm gm s n) rfl trivial ?_
  have hKm : ri_K gm s n := Or.inr ⟨e7m, hSm⟩
  exact ⟨gm, _, rfl, rf_w efm (by decide) (by decide), hKm, ri_J_fr hJ efm hKm (fun _ => e7m) (by decide), rfl, rfl⟩
set_option maxRecDepth 20000 in
set_option maxHeartbeats 4000000 in
theorem re_ct_10 {g : pg_H} {s n : Int} (hB : rm_B g s n) (hC : ri_C g) (hS : ri_S g s n) (h7 : g 0 7 = 1) (hJ : ri_J g s n) : pg_Good false pm_T_count (fun r h' => ∃ (g' : pg_H) (z : Int), h' = rm g' s n ∧ rf [3, 4, 5, 6, 7, 8, 13] [6, 7, 8, 13, 15, 16] g g' ∧ ri_K g' s n ∧ ri_J g' s n ∧ r = some (.inl z) ∧ (z = pg_cn (fun j => mt_lo (g 1) s n ((j : Int) % n) ((j : Int) / n) = (j : Int)) (n * n).toNat)) (21, [(0, .inr (.inr 0)), (1, .inl 10), (2, .inl 0)], [], rm g s n) := by
  obtain ⟨hs, hn, hT⟩ := id hB
  obtain ⟨hn1, hn2⟩ := id hn
  have hr := mt_rd_or hs
  have hN := mt_2rn hs hn
  have hab : True := trivial
  refine pg_ca 4 (L := [pg_inR 10]) (Mc := pm_T_countMoves) (as := [.inr (.inr 0), .inl 10]) (h0 := rm g s n) (pc := 144) (lv := [(0, .inr (.inr 0)), (1, .inl 10), (2, .inl 0)]) (rest := []) rfl ⟨by decide, by decide⟩ (re_cm10 hB hC hS h7) ?_
  intro r_1 h_1 e_1; obtain ⟨gm, eh_, efm, e7m, hSm, er_⟩ := e_1; rw [er_, eh_]
  refine pg_re 0 (L := []) (r := some (.inl (pg_cn (fun j => mt_lo (g 1) s n ((j : Int) % n) ((j : Int) / n) = (j : Int)) (n * n).toNat))) (h0 := rm gm s n) rfl trivial ?_
  have hKm : ri_K gm s n := Or.inr ⟨e7m, hSm⟩
  exact ⟨gm, _, rfl, rf_w efm (by decide) (by decide), hKm, ri_J_fr hJ efm hKm (fun _ => e7m) (by decide), rfl, rfl⟩
set_option maxRecDepth 20000 in
set_option maxHeartbeats 8000000 in
theorem re_count {g : pg_H} {s n : Int} (hB : rm_B g s n) (hC : ri_C g) (hK : ri_K g s n) (hJ : ri_J g s n) (w : Int) (hw : pg_inR w) : pg_Sem false pm_T_count [.inr (.inr 0), .inl w] (rm g s n) (fun r h' => ∃ (g' : pg_H) (z : Int), h' = rm g' s n ∧ rf [3, 4, 5, 6, 7, 8, 13] [6, 7, 8, 13, 15, 16] g g' ∧ ri_K g' s n ∧ ri_J g' s n ∧ r = some (.inl z) ∧ (¬ (0 ≤ w ∧ w ≤ 10) → z = -2) ∧ (w = 0 → z = s) ∧ (w = 1 → z = n) ∧ (w = 2 → z = pg_cn (fun c => ri_hx (g 1) (c : Int) (n * n).toNat) 10) ∧ (w = 3 → z = g 0 3) ∧ (w = 4 → ∃ a c : Int, ri_A (g 1) s n a ∧ ri_Cc (g 1) s n c ∧ z = a * c) ∧ (w = 5 → z = pg_cn (mt_sm (g 1) s n) (2 * mt_rd s * (n * n)).toNat) ∧ (w = 6 → z = pg_cn (fun m => mt_sm (g 1) s n m ∧ mt_k1 (g 1) s n m) (2 * mt_rd s * (n * n)).toNat) ∧ (w = 7 → z = mt_mx (g 1) s n (6 * n * (6 * n)).toNat) ∧ (w = 8 → z = pg_cn (fun m => mt_sm (g 1) s n m ∧ (m : Int) / (n * n) = 0) (2 * mt_rd s * (n * n)).toNat) ∧ (w = 9 → z = pg_cn (fun m => mt_chg (g 1) s n ((m : Int) / (n * n)) ((m : Int) / n % n) ((m : Int) % n)) (2 * mt_rd s * (n * n)).toNat) ∧ (w = 10 → z = pg_cn (fun j => mt_lo (g 1) s n ((j : Int) % n) ((j : Int) / n) = (j : Int)) (n * n).toNat)) := by
  obtain ⟨hs, hn, hT⟩ := id hB
  obtain ⟨hn1, hn2⟩ := id hn
  have hr := mt_rd_or hs
  obtain ⟨w1, w2⟩ := hw
  refine pg_Sem_of pm_T_count_f rfl ?_
  refine pg_ca 4 (L := [pg_inR w]) (Mc := pm_T_isIn) (as := [.inr (.inl w), .inr (.inl 0), .inr (.inl 10)]) (h0 := rm g s n) (pc := 9) (lv := [(0, .inr (.inr 0)), (1, .inl w)]) (rest := []) rfl ⟨by omega, by omega⟩ (re_isIn (rm g s n) w 0 10 ⟨by omega, by omega⟩ ⟨by omega, by omega⟩ ⟨by omega, by omega⟩) ?_
  intro r_1 h_1 e_1; rw [e_1.1, e_1.2]
  have hin_6 : ((if 0 ≤ w ∧ w ≤ 10 then (1 : Int) else 0) = 1 ∧ (0 ≤ w ∧ w ≤ 10)) ∨ ((if 0 ≤ w ∧ w ≤ 10 then (1 : Int) else 0) = 0 ∧ ¬ (0 ≤ w ∧ w ≤ 10)) := by split <;> simp_all
  refine pg_br 0 (L := []) (P := pg_inR (if 0 ≤ w ∧ w ≤ 10 then 1 else 0)) (c := ¬ (if 0 ≤ w ∧ w ≤ 10 then 1 else 0) = 0) (st1 := (15, [(0, .inr (.inr 0)), (1, .inl w)], [], rm g s n)) (st2 := (12, [(0, .inr (.inr 0)), (1, .inl w)], [], rm g s n)) rfl trivial ⟨by omega, by omega⟩ (fun c_9_1 => ?_) (fun c_9_1 => ?_)
  · refine pg_ca 1 (L := []) (Mc := pm_T_findSymmetries) (as := [.inr (.inr 0)]) (h0 := rm g s n) (pc := 19) (lv := [(0, .inr (.inr 0)), (1, .inl w)]) (rest := []) rfl trivial (re_findSymmetries (g := g) hB hC hK) ?_
    intro r_1 h_1 e_1; obtain ⟨er_, g39, eh_, ef39, e739, hS39⟩ := e_1; rw [er_, eh_]; have hB39 := rm_B_fr hB ef39 (by decide); have hC39 := ri_C_fr hC ef39 (by decide)
    have e1_39 : g39 1 = g 1 := ef39.1 1 (by decide) (by decide)
    refine pg_go 2 (L := []) (st' := (21, [(0, .inr (.inr 0)), (1, .inl w), (2, .inl 0)], [], rm g39 s n)) rfl trivial ?_
    have hJq : ri_J g39 s n := ri_J_fr hJ ef39 (Or.inr ⟨e739, hS39⟩) (fun _ => e739) (by decide)
    have hcs : w = 0 ∨ w = 1 ∨ w = 2 ∨ w = 3 ∨ w = 4 ∨ w = 5 ∨ w = 6 ∨ w = 7 ∨ w = 8 ∨ w = 9 ∨ w = 10 := by omega
    have e03 : g39 0 3 = g 0 3 := ef39.2 3 (by decide)
    rcases hcs with rfl | rfl | rfl | rfl | rfl | rfl | rfl | rfl | rfl | rfl | rfl
    · refine po_st_mono (re_ct_0 hB39 hC39 hS39 e739 hJq) (fun r_ h_ hq => ?_)
      obtain ⟨g3, z, q1, q2, q3, q4, q5, q6⟩ := hq
      have q6 := q6
      refine ⟨g3, z, q1, rf_tr (rf_w ef39 (cs := [3, 4, 5, 6, 7, 8, 13]) (fs := [6, 7, 8, 13, 15, 16]) (by decide) (by decide)) q2 (by decide) (by decide), q3, q4, q5, fun hz => absurd (by decide) hz, fun _ => q6, fun hz => absurd hz (by decide), fun hz => absurd hz (by decide), fun hz => absurd hz (by decide), fun hz => absurd hz (by decide), fun hz => absurd hz (by decide), fun hz => absurd hz (by decide), fun hz => absurd hz (by decide), fun hz => absurd hz (by decide), fun hz => absurd hz (by decide), fun hz => absurd hz (by decide)⟩
    · refine po_st_mono (re_ct_1 hB39 hC39 hS39 e739 hJq) (fun r_ h_ hq => ?_)
      obtain ⟨g3, z, q1, q2, q3, q4, q5, q6⟩ := hq
      have q6 := q6
      refine ⟨g3, z, q1, rf_tr (rf_w ef39 (cs := [3, 4, 5, 6, 7, 8, 13]) (fs := [6, 7, 8, 13, 15, 16]) (by decide) (by decide)) q2 (by decide) (by decide), q3, q4, q5, fun hz => absurd (by decide) hz, fun hz => absurd hz (by decide), fun _ => q6, fun hz => absurd hz (by decide), fun hz => absurd hz (by decide), fun hz => absurd hz (by decide), fun hz => absurd hz (by decide), fun hz => absurd hz (by decide), fun hz => absurd hz (by decide), fun hz => absurd hz (by decide), fun hz => absurd hz (by decide), fun hz => absurd hz (by decide)⟩
    · refine po_st_mono (re_ct_2 hB39 hC39 hS39 e739 hJq) (fun r_ h_ hq => ?_)
      obtain ⟨g3, z, q1, q2, q3, q4, q5, q6⟩ := hq
      rw [e1_39] at q6
      refine ⟨g3, z, q1, rf_tr (rf_w ef39 (cs := [3, 4, 5, 6, 7, 8, 13]) (fs := [6, 7, 8, 13, 15, 16]) (by decide) (by decide)) q2 (by decide) (by decide), q3, q4, q5, fun hz => absurd (by decide) hz, fun hz => absurd hz (by decide), fun hz => absurd hz (by decide), fun _ => q6, fun hz => absurd hz (by decide), fun hz => absurd hz (by decide), fun hz => absurd hz (by decide), fun hz => absurd hz (by decide), fun hz => absurd hz (by decide), fun hz => absurd hz (by decide), fun hz => absurd hz (by decide), fun hz => absurd hz (by decide)⟩
    · refine po_st_mono (re_ct_3 hB39 hC39 hS39 e739 hJq) (fun r_ h_ hq => ?_)
      obtain ⟨g3, z, q1, q2, q3, q4, q5, q6⟩ := hq
      have q6 := q6
      refine ⟨g3, z, q1, rf_tr (rf_w ef39 (cs := [3, 4, 5, 6, 7, 8, 13]) (fs := [6, 7, 8, 13, 15, 16]) (by decide) (by decide)) q2 (by decide) (by decide), q3, q4, q5, fun hz => absurd (by decide) hz, fun hz => absurd hz (by decide), fun hz => absurd hz (by decide), fun hz => absurd hz (by decide), fun _ => by rw [q6, e03], fun hz => absurd hz (by decide), fun hz => absurd hz (by decide), fun hz => absurd hz (by decide), fun hz => absurd hz (by decide), fun hz => absurd hz (by decide), fun hz => absurd hz (by decide), fun hz => absurd hz (by decide)⟩
    · refine po_st_mono (re_ct_4 hB39 hC39 hS39 e739 hJq) (fun r_ h_ hq => ?_)
      obtain ⟨g3, z, q1, q2, q3, q4, q5, q6⟩ := hq
      rw [e1_39] at q6
      refine ⟨g3, z, q1, rf_tr (rf_w ef39 (cs := [3, 4, 5, 6, 7, 8, 13]) (fs := [6, 7, 8, 13, 15, 16]) (by decide) (by decide)) q2 (by decide) (by decide), q3, q4, q5, fun hz => absurd (by decide) hz, fun hz => absurd hz (by decide), fun hz => absurd hz (by decide), fun hz => absurd hz (by decide), fun hz => absurd hz (by decide), fun _ => q6, fun hz => absurd hz (by decide), fun hz => absurd hz (by decide), fun hz => absurd hz (by decide), fun hz => absurd hz (by decide), fun hz => absurd hz (by decide), fun hz => absurd hz (by decide)⟩
    · refine po_st_mono (re_ct_5 hB39 hC39 hS39 e739 hJq) (fun r_ h_ hq => ?_)
      obtain ⟨g3, z, q1, q2, q3, q4, q5, q6⟩ := hq
      rw [e1_39] at q6
      refine ⟨g3, z, q1, rf_tr (rf_w ef39 (cs := [3, 4, 5, 6, 7, 8, 13]) (fs := [6, 7, 8, 13, 15, 16]) (by decide) (by decide)) q2 (by decide) (by decide), q3, q4, q5, fun hz => absurd (by decide) hz, fun hz => absurd hz (by decide), fun hz => absurd hz (by decide), fun hz => absurd hz (by decide), fun hz => absurd hz (by decide), fun hz => absurd hz (by decide), fun _ => q6, fun hz => absurd hz (by decide), fun hz => absurd hz (by decide), fun hz => absurd hz (by decide), fun hz => absurd hz (by decide), fun hz => absurd hz (by decide)⟩
    · refine po_st_mono (re_ct_6 hB39 hC39 hS39 e739 hJq) (fun r_ h_ hq => ?_)
      obtain ⟨g3, z, q1, q2, q3, q4, q5, q6⟩ := hq
      rw [e1_39] at q6
      refine ⟨g3, z, q1, rf_tr (rf_w ef39 (cs := [3, 4, 5, 6, 7, 8, 13]) (fs := [6, 7, 8, 13, 15, 16]) (by decide) (by decide)) q2 (by decide) (by decide), q3, q4, q5, fun hz => absurd (by decide) hz, fun hz => absurd hz (by decide), fun hz => absurd hz (by decide), fun hz => absurd hz (by decide), fun hz => absurd hz (by decide), fun hz => absurd hz (by decide), fun hz => absurd hz (by decide), fun _ => q6, fun hz => absurd hz (by decide), fun hz => absurd hz (by decide), fun hz => absurd hz (by decide), fun hz => absurd hz (by decide)⟩
    · refine po_st_mono (re_ct_7 hB39 hC39 hS39 e739 hJq (Or.inr ⟨e739, hS39⟩)) (fun r_ h_ hq => ?_)
      obtain ⟨g3, z, q1, q2, q3, q4, q5, q6⟩ := hq
      rw [e1_39] at q6
      refine ⟨g3, z, q1, rf_tr (rf_w ef39 (cs := [3, 4, 5, 6, 7, 8, 13]) (fs := [6, 7, 8, 13, 15, 16]) (by decide) (by decide)) q2 (by decide) (by decide), q3, q4, q5, fun hz => absurd (by decide) hz, fun hz => absurd hz (by decide), fun hz => absurd hz (by decide), fun hz => absurd hz (by decide), fun hz => absurd hz (by decide), fun hz => absurd hz (by decide), fun hz => absurd hz (by decide), fun hz => absurd hz (by decide), fun _ => q6, fun hz => absurd hz (by decide), fun hz => absurd hz (by decide), fun hz => absurd hz (by decide)⟩
    · refine po_st_mono (re_ct_8 hB39 hC39 hS39 e739 hJq) (fun r_ h_ hq => ?_)
      obtain ⟨g3, z, q1, q2, q3, q4, q5, q6⟩ := hq
      rw [e1_39] at q6
      refine ⟨g3, z, q1, rf_tr (rf_w ef39 (cs := [3, 4, 5, 6, 7, 8, 13]) (fs := [6, 7, 8, 13, 15, 16]) (by decide) (by decide)) q2 (by decide) (by decide), q3, q4, q5, fun hz => absurd (by decide) hz, fun hz => absurd hz (by decide), fun hz => absurd hz (by decide), fun hz => absurd hz (by decide), fun hz => absurd hz (by decide), fun hz => absurd hz (by decide), fun hz => absurd hz (by decide), fun hz => absurd hz (by decide), fun hz => absurd hz (by decide), fun _ => q6, fun hz => absurd hz (by decide), fun hz => absurd hz (by decide)⟩
    · refine po_st_mono (re_ct_9 hB39 hC39 hS39 e739 hJq) (fun r_ h_ hq => ?_)
      obtain ⟨g3, z, q1, q2, q3, q4, q5, q6⟩ := hq
      rw [e1_39] at q6
      refine ⟨g3, z, q1, rf_tr (rf_w ef39 (cs := [3, 4, 5, 6, 7, 8, 13]) (fs := [6, 7, 8, 13, 15, 16]) (by decide) (by decide)) q2 (by decide) (by decide), q3, q4, q5, fun hz => absurd (by decide) hz, fun hz => absurd hz (by decide), fun hz => absurd hz (by decide), fun hz => absurd hz (by decide), fun hz => absurd hz (by decide), fun hz => absurd hz (by decide), fun hz => absurd hz (by decide), fun hz => absurd hz (by decide), fun hz => absurd hz (by decide), fun hz => absurd hz (by decide), fun _ => q6, fun hz => absurd hz (by decide)⟩
    · refine po_st_mono (re_ct_10 hB39 hC39 hS39 e739 hJq) (fun r_ h_ hq => ?_)
      obtain ⟨g3, z, q1, q2, q3, q4, q5, q6⟩ := hq
      rw [e1_39] at q6
      refine ⟨g3, z, q1, rf_tr (rf_w ef39 (cs := [3, 4, 5, 6, 7, 8, 13]) (fs := [6, 7, 8, 13, 15, 16]) (by decide) (by decide)) q2 (by decide) (by decide), q3, q4, q5, fun hz => absurd (by decide) hz, fun hz => absurd hz (by decide), fun hz => absurd hz (by decide), fun hz => absurd hz (by decide), fun hz => absurd hz (by decide), fun hz => absurd hz (by decide), fun hz => absurd hz (by decide), fun hz => absurd hz (by decide), fun hz => absurd hz (by decide), fun hz => absurd hz (by decide), fun hz => absurd hz (by decide), fun _ => q6⟩
  · refine pg_re 1 (L := []) (r := some (.inl (-2))) (h0 := rm g s n) rfl trivial ?_
    exact ⟨g, -2, rfl, rf_rf _ _ _, hK, hJ, rfl, fun _ => rfl, fun hz => absurd hz (by omega), fun hz => absurd hz (by omega), fun hz => absurd hz (by omega), fun hz => absurd hz (by omega), fun hz => absurd hz (by omega), fun hz => absurd hz (by omega), fun hz => absurd hz (by omega), fun hz => absurd hz (by omega), fun hz => absurd hz (by omega), fun hz => absurd hz (by omega), fun hz => absurd hz (by omega)⟩
