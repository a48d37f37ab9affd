/-! Signature: study -/
section SGF
variable {h g : pg_H} (h10 : ∀ j, j ≠ 8 → j ≠ 9 → g 10 j = h 10 j) (h11 : g 11 = h 11) (h12 : g 12 = h 12) (h5 : g 15 5 = h 15 5) (h6 : g 15 6 = h 15 6) (s : Int)
theorem sg_t_fr (m : Nat) (h10 : ∀ j, j ≠ 8 → j ≠ 9 → g 10 j = h 10 j) (h11 : g 11 = h 11) (h12 : g 12 = h 12) (h5 : g 15 5 = h 15 5) : sg_t g s m = sg_t h s m := by
  unfold sg_t
  rw [h5]
  exact pg_cn_congr (fun k _ => sy_F_fr h10 h11 h12 _ _ _ _)
theorem sg_m_fr (m : Nat) (h10 : ∀ j, j ≠ 8 → j ≠ 9 → g 10 j = h 10 j) (h11 : g 11 = h 11) (h12 : g 12 = h 12) (h5 : g 15 5 = h 15 5) : sg_m g s m = sg_m h s m := by
  unfold sg_m
  rw [h5]
  exact pg_cn_congr (fun k _ => sy_F_fr h10 h11 h12 _ _ _ _)
theorem sg_E_fr (m : Nat) (h10 : ∀ j, j ≠ 8 → j ≠ 9 → g 10 j = h 10 j) (h11 : g 11 = h 11) (h12 : g 12 = h 12) (h5 : g 15 5 = h 15 5) (h6 : g 15 6 = h 15 6) : sg_E g s m = sg_E h s m := by
  induction m with
  | zero => rfl
  | succ m ih =>
    simp only [sg_E]
    rw [ih, sg_m_fr s m h10 h11 h12 h5, sg_S_fr h10 h11 h12 h5 h6]
theorem sg_mx_fr (m : Nat) (h10 : ∀ j, j ≠ 8 → j ≠ 9 → g 10 j = h 10 j) (h11 : g 11 = h 11) (h12 : g 12 = h 12) (h5 : g 15 5 = h 15 5) : sg_mx g s m = sg_mx h s m := by
  induction m with
  | zero => rfl
  | succ m ih =>
    simp only [sg_mx]
    rw [ih, sg_t_fr s m h10 h11 h12 h5]
theorem sg_cn_fr (r : Int) (m : Nat) (h10 : ∀ j, j ≠ 8 → j ≠ 9 → g 10 j = h 10 j) (h11 : g 11 = h 11) (h12 : g 12 = h 12) (h5 : g 15 5 = h 15 5) : sg_cn g s r m = sg_cn h s r m ∧ sg_co g s r m = sg_co h s r m := by
  unfold sg_cn sg_co
  constructor <;> exact pg_cn_congr (fun j _ => by rw [sg_t_fr s j h10 h11 h12 h5, sg_m_fr s j h10 h11 h12 h5])
end SGF
def sg_l (h : pg_H) : Int := if 1 < h 10 7 then h 10 7 else 1
/-- what Signature keeps -/
def sg_D (h : pg_H) (s : Int) : Prop := sg_W h ∧ (h 15 7 = (sg_E h s (h 15 5 * h 15 6).toNat).1 ∧ h 15 10 = sg_mx h s (h 15 5 * h 15 6).toNat) ∧ (∀ r : Nat, r < 7 → h 16 r = sg_cn h s r (h 15 5 * h 15 6).toNat * r / sg_l h ∧ h 17 r = sg_co h s r (h 15 5 * h 15 6).toNat * 2 * r / sg_l h) ∧ h 15 8 = pg_if (sg_od h s) (Int.tdiv (sg_lf h 5) 24) 0 ∧ h 15 9 = pg_if (sg_od h s) 0 (Int.tdiv (sg_lf h 5) 48)
def sg_I (h : pg_H) (s : Int) : Prop := h 15 11 = 0 ∨ (h 15 11 = 1 ∧ h 10 9 = 1 ∧ sg_D h s)
theorem sg_D_fr {h g : pg_H} {s : Int} (h10 : ∀ j, j ≠ 8 → j ≠ 9 → g 10 j = h 10 j) (h11 : g 11 = h 11) (h12 : g 12 = h 12) (h15 : ∀ j, j ≠ 11 → g 15 j = h 15 j) (h16 : g 16 = h 16) (h17 : g 17 = h 17) (hD : sg_D h s) : sg_D g s := by
  have e5 := h15 5 (by decide)
  have e6 := h15 6 (by decide)
  unfold sg_D sg_W sg_l sg_od at *
  rw [e5, e6, h15 7 (by decide), h15 8 (by decide), h15 9 (by decide), h15 10 (by decide), h10 4 (by decide) (by decide), h10 6 (by decide) (by decide), h10 7 (by decide) (by decide), h11, h16, h17, sg_E_fr s _ h10 h11 h12 e5 e6, sg_mx_fr s _ h10 h11 h12 e5]
  have elf : sg_lf g 5 = sg_lf h 5 := by
    simp only [sg_lf]
    rw [h15 7 (by decide), h16, h17]
  rw [elf]
  refine ⟨hD.1, hD.2.1, fun r hr => ?_, hD.2.2.2⟩
  rw [(sg_cn_fr s r _ h10 h11 h12 e5).1, (sg_cn_fr s r _ h10 h11 h12 e5).2]
  exact hD.2.2.1 r hr
theorem sg_st_p {b : pg_H} {s n : Int} (hB : cm_B b s n) (hR : sy_R b s) (hW : sg_W b) {q : Int} (hq : 0 ≤ q ∧ q < b 15 6) : ∀ (d : Nat) (g : pg_H) (p : Int) (hd : p + (d : Int) = b 15 5) (hp : 0 ≤ p) (hZ : sg_Z b g s (q * b 15 5 + p).toNat) (hK : ∀ g2 : pg_H, sg_Z b g2 s (q * b 15 5 + b 15 5).toNat → pg_Good true pm_G_study (fun r h' => r = none ∧ pg_fr [1, 2, 3, 15, 16, 17] b h' ∧ rc_I h' ∧ h' 15 11 = 1 ∧ sg_D h' s) (120, [(0, .inr (.inr 15)), (1, .inl q)], [], g2)), pg_Good true pm_G_study (fun r h' => r = none ∧ pg_fr [1, 2, 3, 15, 16, 17] b h' ∧ rc_I h' ∧ h' 15 11 = 1 ∧ sg_D h' s) (100, [(0, .inr (.inr 15)), (1, .inl q), (2, .inl p)], [], g) := by
  intro d
  induction d with
  | zero =>
    intro g p hd hp hZ hK
    obtain ⟨hs, ⟨hn1, hn2⟩, e1, e2, e3, e5⟩ := id hB
    have hr := mt_rd_or hs
    obtain ⟨ra, rb, rc, rl, rk⟩ := id hR
    have w1 : 1 ≤ b 15 5 ∧ b 15 5 ≤ 72 := by rw [hW.1]; omega
    have w2 : 1 ≤ b 15 6 ∧ b 15 6 ≤ 72 := by rw [hW.2]; omega
    obtain ⟨hf, h15, hL, z7, z10, zc, zb⟩ := id hZ
    have g155 : g 15 5 = b 15 5 := h15 5 (by decide) (by decide)
    have g156 : g 15 6 = b 15 6 := h15 6 (by decide) (by decide)
    refine pg_br 3 (L := []) (P := pg_inR p ∧ pg_inR (g 15 5)) (c := (g 15 5) ≤ p) (st1 := (120, [(0, .inr (.inr 15)), (1, .inl q), (2, .inl p)], [], g)) (st2 := (108, [(0, .inr (.inr 15)), (1, .inl q), (2, .inl p)], [], g)) rfl trivial ⟨⟨by omega, by omega⟩, ⟨by omega, by omega⟩⟩ (fun c_105_1 => ?_) (fun c_105_1 => ?_)
    · refine pg_pick [0, 1] rfl ?_
      rw [show p = b 15 5 by omega] at hZ
      exact hK g hZ
    · exact (by exfalso; omega)
  | succ d ih =>
    intro g p hd hp hZ hK
    obtain ⟨hs, ⟨hn1, hn2⟩, e1, e2, e3, e5⟩ := id hB
    have hr := mt_rd_or hs
    obtain ⟨ra, rb, rc, rl, rk⟩ := id hR
    have w1 : 1 ≤ b 15 5 ∧ b 15 5 ≤ 72 := by rw [hW.1]; omega
    have w2 : 1 ≤ b 15 6 ∧ b 15 6 ≤ 72 := by rw [hW.2]; omega
    obtain ⟨hf, h15, hL, z7, z10, zc, zb⟩ := id hZ
    have g155 : g 15 5 = b 15 5 := h15 5 (by decide) (by decide)
    have g156 : g 15 6 = b 15 6 := h15 6 (by decide) (by decide)
    have h0 : 0 ≤ q * b 15 5 := Int.mul_nonneg hq.1 (by omega)
    refine pg_br 3 (L := []) (P := pg_inR p ∧ pg_inR (g 15 5)) (c := (g 15 5) ≤ p) (st1 := (120, [(0, .inr (.inr 15)), (1, .inl q), (2, .inl p)], [], g)) (st2 := (108, [(0, .inr (.inr 15)), (1, .inl q), (2, .inl p)], [], g)) rfl trivial ⟨⟨by omega, by omega⟩, ⟨by omega, by omega⟩⟩ (fun c_105_2 => ?_) (fun c_105_2 => ?_)
    · exact (by exfalso; omega)
    · refine pg_ca 3 (L := []) (Mc := pm_G_lookAt) (as := [.inr (.inr 15), .inl p, .inl q]) (h0 := g) (pc := 114) (lv := [(0, .inr (.inr 15)), (1, .inl q), (2, .inl p)]) (rest := []) rfl trivial (sg_look hB hR hW hZ (p := p) (q := q) ⟨by omega, by omega⟩ ⟨by omega, by omega⟩ (by omega)) ?_
      intro r_1 g2 e_1; obtain ⟨er_, hZ2⟩ := e_1; rw [er_]
      refine pg_go 2 (L := []) (st' := (100, [(0, .inr (.inr 15)), (1, .inl q), (2, .inl (p + 1))], [], g2)) rfl trivial ?_
      refine ih g2 _ (by omega) (by omega) ?_ hK
      rw [show (q * b 15 5 + (p + 1)).toNat = (q * b 15 5 + p).toNat + 1 by omega]
      exact hZ2
set_option maxHeartbeats 4000000 in
theorem sg_st_q {b : pg_H} {s n : Int} (hB : cm_B b s n) (hR : sy_R b s) (hW : sg_W b) : ∀ (d : Nat) (g : pg_H) (q : Int) (hd : q + (d : Int) = b 15 6) (hq : 0 ≤ q) (hZ : sg_Z b g s (q * b 15 5).toNat), pg_Good true pm_G_study (fun r h' => r = none ∧ pg_fr [1, 2, 3, 15, 16, 17] b h' ∧ rc_I h' ∧ h' 15 11 = 1 ∧ sg_D h' s) (90, [(0, .inr (.inr 15)), (1, .inl q)], [], g) := by
  intro d
  induction d with
  | zero =>
    intro g q hd hq hZ
    obtain ⟨hs, ⟨hn1, hn2⟩, e1, e2, e3, e5⟩ := id hB
    have hr := mt_rd_or hs
    obtain ⟨ra, rb, rc, rl, rk⟩ := id hR
    have w1 : 1 ≤ b 15 5 ∧ b 15 5 ≤ 72 := by rw [hW.1]; omega
    have w2 : 1 ≤ b 15 6 ∧ b 15 6 ≤ 72 := by rw [hW.2]; omega
    obtain ⟨hf, h15, hL, z7, z10, zc, zb⟩ := id hZ
    have g155 : g 15 5 = b 15 5 := h15 5 (by decide) (by decide)
    have g156 : g 15 6 = b 15 6 := h15 6 (by decide) (by decide)
    have hM : q * b 15 5 ≤ 72 * 72 := Int.mul_le_mul (by omega) w1.2 (by omega) (by decide)
    have h0 : 0 ≤ q * b 15 5 := Int.mul_nonneg hq (by omega)
    have g107 : g 10 7 = b 10 7 := by rw [hf 10 (by decide)]
    have hcb : ∀ r : Nat, r < 7 → (0 ≤ g 16 r ∧ g 16 r ≤ 10000) ∧ (0 ≤ g 17 r ∧ g 17 r ≤ 10000) := by
      intro r hr
      have c1 := pg_cn_bd (fun j => sg_t b s j = (r : Int) ∧ sg_m b s j = 0) (q * b 15 5).toNat
      have c2 := pg_cn_bd (fun j => sg_t b s j = (r : Int) ∧ sg_m b s j ≠ 0) (q * b 15 5).toNat
      rw [(zc r hr).1, (zc r hr).2]
      unfold sg_cn sg_co
      omega
    refine pg_br 3 (L := []) (P := pg_inR q ∧ pg_inR (g 15 6)) (c := (g 15 6) ≤ q) (st1 := (126, [(0, .inr (.inr 15)), (1, .inl q)], [], g)) (st2 := (98, [(0, .inr (.inr 15)), (1, .inl q)], [], g)) rfl trivial ⟨⟨by omega, by omega⟩, ⟨by omega, by omega⟩⟩ (fun c_95_1 => ?_) (fun c_95_1 => ?_)
    · refine pg_ca 1 (L := []) (Mc := pm_G_placesToClasses) (as := [.inr (.inr 15)]) (h0 := g) (pc := 130) (lv := [(0, .inr (.inr 15)), (1, .inl q)]) (rest := []) rfl trivial (sg_pc hcb (by rw [hf 10 (by decide)]; exact rl)) ?_
      intro r_1 g1 e_1; obtain ⟨er_, ef1_, ec_⟩ := e_1; rw [er_]
      have hf1 := pg_fr_tr hf ef1_ (by decide)
      have hB1 := cm_B_fr hB hf1 (by decide) (by decide)
      have hR1 := sy_R_fr hf1 (by decide) (by decide) (by decide) hR
      have hl1 : 1 ≤ (if 1 < g 10 7 then g 10 7 else 1) := by split <;> omega
      have hcb1 : ∀ r : Nat, r < 7 → (0 ≤ g1 16 r ∧ g1 16 r ≤ 200000) ∧ (0 ≤ g1 17 r ∧ g1 17 r ≤ 200000) := by
        intro r hr
        have c1 := hcb r hr
        rw [(ec_ r hr).1, (ec_ r hr).2]
        have m1 := pg_mul7 (x := g 16 r) (j := r) (M := 10000) c1.1 ⟨by omega, by omega⟩
        have m2 := pg_mul7 (x := g 17 r * 2) (j := r) (M := 20000) (by omega) ⟨by omega, by omega⟩
        have d1 := pg_div_bd m1 hl1
        have d2 := pg_div_bd m2 hl1
        exact ⟨⟨d1.1, by omega⟩, ⟨d2.1, by omega⟩⟩
      have e157 : g1 15 = g 15 := ef1_ 15 (by decide)
      have he1 : 0 ≤ g1 15 7 ∧ g1 15 7 ≤ 10000 := by rw [e157, z7]; have := sg_E_bd b s (q * b 15 5).toNat; omega
      refine pg_ca 1 (L := []) (Mc := pm_G_countTheRest) (as := [.inr (.inr 15)]) (h0 := g1) (pc := 134) (lv := [(0, .inr (.inr 15)), (1, .inl q)]) (rest := []) rfl trivial (sg_cr hB1 hR1 hcb1 he1) ?_
      intro r_1 h_1 e_1; rw [e_1.1, e_1.2]
      refine pg_re 3 (L := [1 = 0 ∨ 1 = 1]) (r := none) (h0 := pg_up (pg_up (pg_up g1 15 8 (pg_if (sg_od g1 s) (Int.tdiv (sg_lf g1 5) 24) 0)) 15 9 (pg_if (sg_od g1 s) 0 (Int.tdiv (sg_lf g1 5) 48))) 15 11 1) rfl (Or.inr rfl) ?_
      have eq5 : b 15 5 * b 15 6 = q * b 15 5 := by rw [show b 15 6 = q by omega, Int.mul_comm]
      have f10 : ∀ j, j ≠ 8 → j ≠ 9 → g1 10 j = b 10 j := fun j _ _ => by rw [hf1 10 (by decide)]
      have f11 : g1 11 = b 11 := hf1 11 (by decide)
      have f12 : g1 12 = b 12 := hf1 12 (by decide)
      have f5 : g1 15 5 = b 15 5 := by rw [e157, g155]
      have f6 : g1 15 6 = b 15 6 := by rw [e157, g156]
      refine ⟨rfl, pg_fr_up (pg_fr_up (pg_fr_up hf1 (by decide) _ _) (by decide) _ _) (by decide) _ _, ?_, rfl, ?_⟩
      · have hLf := rc_L_fr (pg_fr_up (pg_fr_up (pg_fr_up (pg_fr_tr (pg_fr_rf [15, 16, 17] g) ef1_ (by decide)) (q := 15) (by decide) 8 (pg_if (sg_od g1 s) (Int.tdiv (sg_lf g1 5) 24) 0)) (q := 15) (by decide) 9 (pg_if (sg_od g1 s) 0 (Int.tdiv (sg_lf g1 5) 48))) (q := 15) (by decide) 11 1) (by decide) (by decide) (by decide) hL
        exact hLf.1
      · have hWg : sg_W g1 := by unfold sg_W; rw [f5, f6, f10 4 (by decide) (by decide), f10 6 (by decide) (by decide)]; exact hW
        show sg_W g1 ∧ (g1 15 7 = (sg_E (pg_up (pg_up (pg_up g1 15 8 (pg_if (sg_od g1 s) (Int.tdiv (sg_lf g1 5) 24) 0)) 15 9 (pg_if (sg_od g1 s) 0 (Int.tdiv (sg_lf g1 5) 48))) 15 11 1) s (g1 15 5 * g1 15 6).toNat).1 ∧ g1 15 10 = sg_mx (pg_up (pg_up (pg_up g1 15 8 (pg_if (sg_od g1 s) (Int.tdiv (sg_lf g1 5) 24) 0)) 15 9 (pg_if (sg_od g1 s) 0 (Int.tdiv (sg_lf g1 5) 48))) 15 11 1) s (g1 15 5 * g1 15 6).toNat) ∧ (∀ r : Nat, r < 7 → g1 16 r = sg_cn (pg_up (pg_up (pg_up g1 15 8 (pg_if (sg_od g1 s) (Int.tdiv (sg_lf g1 5) 24) 0)) 15 9 (pg_if (sg_od g1 s) 0 (Int.tdiv (sg_lf g1 5) 48))) 15 11 1) s r (g1 15 5 * g1 15 6).toNat * r / sg_l g1 ∧ g1 17 r = sg_co (pg_up (pg_up (pg_up g1 15 8 (pg_if (sg_od g1 s) (Int.tdiv (sg_lf g1 5) 24) 0)) 15 9 (pg_if (sg_od g1 s) 0 (Int.tdiv (sg_lf g1 5) 48))) 15 11 1) s r (g1 15 5 * g1 15 6).toNat * 2 * r / sg_l g1) ∧ _ ∧ _
        have F10 : ∀ j, j ≠ 8 → j ≠ 9 → (pg_up (pg_up (pg_up g1 15 8 (pg_if (sg_od g1 s) (Int.tdiv (sg_lf g1 5) 24) 0)) 15 9 (pg_if (sg_od g1 s) 0 (Int.tdiv (sg_lf g1 5) 48))) 15 11 1) 10 j = b 10 j := f10
        have F11 : (pg_up (pg_up (pg_up g1 15 8 (pg_if (sg_od g1 s) (Int.tdiv (sg_lf g1 5) 24) 0)) 15 9 (pg_if (sg_od g1 s) 0 (Int.tdiv (sg_lf g1 5) 48))) 15 11 1) 11 = b 11 := f11
        have F12 : (pg_up (pg_up (pg_up g1 15 8 (pg_if (sg_od g1 s) (Int.tdiv (sg_lf g1 5) 24) 0)) 15 9 (pg_if (sg_od g1 s) 0 (Int.tdiv (sg_lf g1 5) 48))) 15 11 1) 12 = b 12 := f12
        have F5 : (pg_up (pg_up (pg_up g1 15 8 (pg_if (sg_od g1 s) (Int.tdiv (sg_lf g1 5) 24) 0)) 15 9 (pg_if (sg_od g1 s) 0 (Int.tdiv (sg_lf g1 5) 48))) 15 11 1) 15 5 = b 15 5 := f5
        have F6 : (pg_up (pg_up (pg_up g1 15 8 (pg_if (sg_od g1 s) (Int.tdiv (sg_lf g1 5) 24) 0)) 15 9 (pg_if (sg_od g1 s) 0 (Int.tdiv (sg_lf g1 5) 48))) 15 11 1) 15 6 = b 15 6 := f6
        rw [sg_E_fr s _ F10 F11 F12 F5 F6, sg_mx_fr s _ F10 F11 F12 F5, f5, f6, eq5]
        refine ⟨hWg, ⟨by rw [e157]; exact z7, by rw [e157]; exact z10⟩, fun r hr => ?_, ?_, ?_⟩
        · rw [(sg_cn_fr s r _ F10 F11 F12 F5).1, (sg_cn_fr s r _ F10 F11 F12 F5).2, ← (zc r hr).1, ← (zc r hr).2]
          unfold sg_l
          rw [f10 7 (by decide) (by decide), ← g107]
          exact ec_ r hr
        · rfl
        · rfl
    · exact (by exfalso; omega)
  | succ d ih =>
    intro g q hd hq hZ
    obtain ⟨hs, ⟨hn1, hn2⟩, e1, e2, e3, e5⟩ := id hB
    have hr := mt_rd_or hs
    obtain ⟨ra, rb, rc, rl, rk⟩ := id hR
    have w1 : 1 ≤ b 15 5 ∧ b 15 5 ≤ 72 := by rw [hW.1]; omega
    have w2 : 1 ≤ b 15 6 ∧ b 15 6 ≤ 72 := by rw [hW.2]; omega
    obtain ⟨hf, h15, hL, z7, z10, zc, zb⟩ := id hZ
    have g155 : g 15 5 = b 15 5 := h15 5 (by decide) (by decide)
    have g156 : g 15 6 = b 15 6 := h15 6 (by decide) (by decide)
    have h0 : 0 ≤ q * b 15 5 := Int.mul_nonneg hq (by omega)
    refine pg_br 3 (L := []) (P := pg_inR q ∧ pg_inR (g 15 6)) (c := (g 15 6) ≤ q) (st1 := (126, [(0, .inr (.inr 15)), (1, .inl q)], [], g)) (st2 := (98, [(0, .inr (.inr 15)), (1, .inl q)], [], g)) rfl trivial ⟨⟨by omega, by omega⟩, ⟨by omega, by omega⟩⟩ (fun c_95_2 => ?_) (fun c_95_2 => ?_)
    · exact (by exfalso; omega)
    · refine pg_go 2 (L := []) (st' := (100, [(0, .inr (.inr 15)), (1, .inl q), (2, .inl 0)], [], g)) rfl trivial ?_
      refine sg_st_p hB hR hW (q := q) ⟨by omega, by omega⟩ (b 15 5).toNat g 0 (by omega) (by omega) (by rw [Int.add_zero]; exact hZ) (fun g2 hZ2 => ?_)
      refine pg_go 2 (L := []) (st' := (90, [(0, .inr (.inr 15)), (1, .inl (q + 1))], [], g2)) rfl trivial ?_
      refine ih g2 _ (by omega) (by omega) ?_
      rw [Int.add_mul, Int.one_mul]
      exact hZ2
theorem sg_st_r {b : pg_H} {s n : Int} (hB : cm_B b s n) (hR : sy_R b s) (hW : sg_W b) : ∀ (d : Nat) (g : pg_H) (j : Int) (hd : j + (d : Int) = 7) (hj : 0 ≤ j) (hf : pg_fr [1, 2, 3, 15, 16, 17] b g) (h15 : ∀ j, j ≠ 7 → j ≠ 10 → g 15 j = b 15 j) (hL : rc_L g []) (z7 : g 15 7 = 0) (z10 : g 15 10 = 1) (zc : ∀ r : Nat, (r : Int) < j → g 16 r = 0 ∧ g 17 r = 0), pg_Good true pm_G_study (fun r h' => r = none ∧ pg_fr [1, 2, 3, 15, 16, 17] b h' ∧ rc_I h' ∧ h' 15 11 = 1 ∧ sg_D h' s) (62, [(0, .inr (.inr 15)), (1, .inl j)], [], g) := by
  intro d
  induction d with
  | zero =>
    intro g j hd hj hf h15 hL z7 z10 zc
    obtain ⟨hs, ⟨hn1, hn2⟩, e1, e2, e3, e5⟩ := id hB
    have hr := mt_rd_or hs
    obtain ⟨ra, rb, rc, rl, rk⟩ := id hR
    have w1 : 1 ≤ b 15 5 ∧ b 15 5 ≤ 72 := by rw [hW.1]; omega
    have w2 : 1 ≤ b 15 6 ∧ b 15 6 ≤ 72 := by rw [hW.2]; omega
    refine pg_br 2 (L := []) (P := pg_inR j ∧ pg_inR 6) (c := 6 < j) (st1 := (88, [(0, .inr (.inr 15)), (1, .inl j)], [], g)) (st2 := (68, [(0, .inr (.inr 15)), (1, .inl j)], [], g)) rfl trivial ⟨⟨by omega, by omega⟩, ⟨by decide, by decide⟩⟩ (fun c_65_1 => ?_) (fun c_65_1 => ?_)
    · refine pg_go 2 (L := []) (st' := (90, [(0, .inr (.inr 15)), (1, .inl 0)], [], g)) rfl trivial ?_
      refine sg_st_q hB hR hW (b 15 6).toNat g 0 (by omega) (by omega) ?_
      rw [Int.zero_mul]
      exact ⟨hf, h15, hL, z7, z10, fun r hr => zc r (by omega), fun x hx => by cases hx⟩
    · exact (by exfalso; omega)
  | succ d ih =>
    intro g j hd hj hf h15 hL z7 z10 zc
    refine pg_br 2 (L := []) (P := pg_inR j ∧ pg_inR 6) (c := 6 < j) (st1 := (88, [(0, .inr (.inr 15)), (1, .inl j)], [], g)) (st2 := (68, [(0, .inr (.inr 15)), (1, .inl j)], [], g)) rfl trivial ⟨⟨by omega, by omega⟩, ⟨by decide, by decide⟩⟩ (fun c_65_2 => ?_) (fun c_65_2 => ?_)
    · exact (by exfalso; omega)
    · refine pg_go 12 (L := [0 ≤ j ∧ j < (7 : Int), 0 ≤ j ∧ j < (7 : Int)]) (st' := (62, [(0, .inr (.inr 15)), (1, .inl (j + 1))], [], pg_up (pg_up g 16 j.toNat 0) 17 j.toNat 0)) rfl ⟨⟨by omega, by omega⟩, ⟨by omega, by omega⟩⟩ ?_
      refine ih _ _ (by omega) (by omega) (pg_fr_up (pg_fr_up hf (by decide) _ _) (by decide) _ _) h15 (rc_L_fr (pg_fr_up (pg_fr_up (pg_fr_rf [16, 17] g) (by decide) _ _) (by decide) _ _) (by decide) (by decide) (by decide) hL) z7 z10 (fun r hr => ?_)
      rw [pg_up_at, pg_up_ne _ _ _ (by decide : (16 : Nat) ≠ 17), pg_up_at, pg_up_ne _ _ _ (by decide : (17 : Nat) ≠ 16)]
      by_cases hc : r = j.toNat
      · rw [if_pos hc, if_pos hc]; exact ⟨rfl, rfl⟩
      · rw [if_neg hc, if_neg hc]; exact zc r (by omega)
set_option maxHeartbeats 4000000 in
theorem sg_study {h : pg_H} {s n : Int} (hQ : cq_I h s n) (hI : rc_I h) (hG : sg_I h s) : pg_Sem true pm_G_study [.inr (.inr 15)] h (fun r h' => r = none ∧ pg_fr [1, 2, 3, 10, 11, 12, 15, 16, 17] h h' ∧ cq_J h' s n ∧ rc_I h' ∧ sg_D h' s ∧ h' 15 11 = 1 ∧ sy_eq h h') := by
  have hg0 : h 15 11 = 0 ∨ h 15 11 = 1 := by unfold sg_I at hG; omega
  refine pg_Sem_of pm_G_study_f rfl ?_
  refine pg_br 2 (L := []) (P := pg_inR (h 15 11)) (c := (h 15 11) = 0) (st1 := (8, [(0, .inr (.inr 15))], [], h)) (st2 := (7, [(0, .inr (.inr 15))], [], h)) rfl trivial ⟨by omega, by omega⟩ (fun c_4_1 => ?_) (fun c_4_1 => ?_)
  · refine pg_ca 2 (L := []) (Mc := pm_S_study) (as := [.inr (.inr 10)]) (h0 := h) (pc := 15) (lv := [(0, .inr (.inr 15))]) (rest := []) rfl trivial (cq_study hQ) ?_
    intro r_1 g e_1; obtain ⟨er_, ef_, hJ, hse⟩ := e_1; rw [er_]; obtain ⟨hQg, hk_, hD_⟩ := id hJ; obtain ⟨hBg, hCg, hSg, -, -⟩ := id hQg; obtain ⟨hs, ⟨hn1, hn2⟩, -⟩ := id hBg; have hR := sy_R_of hs hn2 hD_; have hr := mt_rd_or hs; have hIg : rc_I g := by (unfold rc_I; rw [ef_ 1 (by decide), ef_ 2 (by decide), ef_ 3 (by decide)]; exact hI)
    refine pg_ca 22 (L := []) (Mc := pm_R_clear) (as := [.inr (.inr 1)]) (h0 := pg_up (pg_up (pg_up (pg_up g 15 5 (6 * (g 10 4))) 15 6 (6 * (g 10 6))) 15 10 1) 15 7 0) (pc := 60) (lv := [(0, .inr (.inr 15))]) (rest := []) rfl trivial (rl_clear (h := pg_up (pg_up (pg_up (pg_up g 15 5 (6 * (g 10 4))) 15 6 (6 * (g 10 6))) 15 10 1) 15 7 0) (by exact hIg)) ?_
    intro r_1 g1 e_1; obtain ⟨er_, eL1_, ef1_⟩ := e_1; rw [er_]
    refine pg_go 2 (L := []) (st' := (62, [(0, .inr (.inr 15)), (1, .inl 0)], [], g1)) rfl trivial ?_
    have e15 : g1 15 = pg_up (pg_up (pg_up (pg_up g 15 5 (6 * g 10 4)) 15 6 (6 * g 10 6)) 15 10 1) 15 7 0 15 := ef1_ 15 (by decide)
    have hfa : pg_fr [1, 2, 3, 15, 16, 17] (pg_up (pg_up g 15 5 (6 * g 10 4)) 15 6 (6 * g 10 6)) g1 := pg_fr_tr (pg_fr_up (pg_fr_up (pg_fr_rf _ _) (by decide) _ _) (by decide) _ _) ef1_ (by decide)
    refine po_st_mono (sg_st_r (b := (pg_up (pg_up g 15 5 (6 * g 10 4)) 15 6 (6 * g 10 6))) (cm_B_up (cm_B_up hBg (by decide) (by decide)) (by decide) (by decide)) (by exact hR) ⟨rfl, rfl⟩ 7 g1 0 (by omega) (by omega) hfa (fun j h1 h2 => ?_) eL1_ ?_ ?_ (fun r hr => by omega)) ?_
    · rw [e15, pg_up_at, if_neg h1, pg_up_at, if_neg h2]
    · rw [e15, pg_up_at, if_pos rfl]
    · rw [e15]; rfl
    · rintro r h' ⟨e1, e2, e3, e4, e5⟩
      have efg : pg_fr [1, 2, 3, 15, 16, 17] g h' := pg_fr_tr (pg_fr_up (pg_fr_up (pg_fr_rf _ g) (by decide) _ _) (by decide) _ _) e2 (by decide)
      exact ⟨e1, pg_fr_tr (pg_fr_tr (pg_fr_rf _ _) ef_ (by decide)) efg (by decide), cq_J_fr efg (by decide) (by decide) (by decide) (by decide) (by decide) (by decide) (by decide) hJ, e3, e5, e4, sy_eq_fr hse efg (by decide) (by decide) (by decide)⟩
  · refine pg_re 0 (L := []) (r := none) (h0 := h) rfl trivial ?_
    rcases hG with hq | ⟨hq1, hq2, hq3⟩
    · omega
    · have hD : sy_D h s n := by
        rcases hQ.2.2.2.1 with hw | hw
        · omega
        · exact hw.2
      exact ⟨rfl, pg_fr_rf _ _, ⟨hQ, hq2, hD⟩, hI, hq3, hq1, sy_eq_rf _⟩
theorem sg_most {h : pg_H} {s n : Int} (hQ : cq_I h s n) (hI : rc_I h) (hG : sg_I h s) : pg_Sem true pm_G_mostTurns [.inr (.inr 15)] h (fun r h' => r = some (.inl (h' 15 10)) ∧ pg_fr [1, 2, 3, 10, 11, 12, 15, 16, 17] h h' ∧ cq_J h' s n ∧ rc_I h' ∧ sg_D h' s ∧ h' 15 11 = 1 ∧ sy_eq h h') := by
  refine pg_Sem_of pm_G_mostTurns_f rfl ?_
  refine pg_ca 1 (L := []) (Mc := pm_G_study) (as := [.inr (.inr 15)]) (h0 := h) (pc := 4) (lv := [(0, .inr (.inr 15))]) (rest := []) rfl trivial (sg_study hQ hI hG) ?_
  intro r_1 g e_1; obtain ⟨er_, ef_, hJ, hIg, hD_, hk_, hse⟩ := e_1; rw [er_]
  refine pg_re 2 (L := []) (r := some (.inl (g 15 10))) (h0 := g) rfl trivial ?_
  exact ⟨rfl, ef_, hJ, hIg, hD_, hk_, hse⟩
