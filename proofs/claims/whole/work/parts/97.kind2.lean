/-! kinds: turns and mirrors together -/
theorem gr_x1 (x y : Int) : (mt_x 1 1 x y = -y ∧ mt_y 1 1 x y = x + y) ∧ (mt_x 1 2 x y = -x - y ∧ mt_y 1 2 x y = x) ∧ (mt_x 1 3 x y = -x ∧ mt_y 1 3 x y = -y) ∧ (mt_x 1 4 x y = y ∧ mt_y 1 4 x y = -x - y) := by
  refine ⟨⟨?_, ?_⟩, ⟨?_, ?_⟩, ⟨?_, ?_⟩, ⟨?_, ?_⟩⟩
  · show (0 : Int) * x + (-1) * y = -y; omega
  · show (1 : Int) * x + 1 * y = x + y; omega
  · show (-1 : Int) * x + (-1) * y = -x - y; omega
  · show (1 : Int) * x + 0 * y = x; omega
  · show (-1 : Int) * x + 0 * y = -x; omega
  · show (0 : Int) * x + (-1) * y = -y; omega
  · show (0 : Int) * x + 1 * y = y; omega
  · show (-1 : Int) * x + (-1) * y = -x - y; omega
theorem gr_x0 (x y : Int) : (mt_x 0 1 x y = -y ∧ mt_y 0 1 x y = x) ∧ (mt_x 0 2 x y = -x ∧ mt_y 0 2 x y = -y) ∧ (mt_x 0 4 x y = x ∧ mt_y 0 4 x y = -y) ∧ (mt_x 0 5 x y = y ∧ mt_y 0 5 x y = x) := by
  refine ⟨⟨?_, ?_⟩, ⟨?_, ?_⟩, ⟨?_, ?_⟩, ⟨?_, ?_⟩⟩
  · show (0 : Int) * x + (-1) * y = -y; omega
  · show (1 : Int) * x + 0 * y = x; omega
  · show (-1 : Int) * x + 0 * y = -x; omega
  · show (0 : Int) * x + (-1) * y = -y; omega
  · show (1 : Int) * x + 0 * y = x; omega
  · show (0 : Int) * x + (-1) * y = -y; omega
  · show (0 : Int) * x + 1 * y = y; omega
  · show (1 : Int) * x + 0 * y = x; omega
theorem gr_d1 : ∀ k : Fin 12, 6 ≤ k.val → mt_lp 1 (k.val : Int) 2 = mt_lp 1 4 (k.val : Int) ∧ gr_cj 1 (k.val : Int) 1 = 5 ∧ gr_cj 1 (k.val : Int) 2 = 4 ∧ mt_li 1 5 = 1 ∧ mt_li 1 4 = 2 := by decide +kernel
theorem gr_d0 : ∀ k : Fin 8, 4 ≤ k.val → (∃ i : Fin 4, mt_lp 0 (i.val : Int) (k.val : Int) = 4) ∧ (∃ i : Fin 4, mt_lp 0 (i.val : Int) (k.val : Int) = 5) := by decide +kernel
theorem gr_d2 : mt_lp 0 1 1 = 2 ∧ mt_lp 0 1 2 = 3 ∧ mt_lp 1 1 1 = 2 ∧ mt_lp 1 1 2 = 3 ∧ mt_lp 1 2 2 = 4 ∧ mt_lp 1 1 3 = 4 ∧ mt_lp 1 1 4 = 5 := by decide +kernel
section
variable {n : Int}
/-- turns of order 3, and one that turns over: a mirror -/
theorem gr_m3 {S : Int → Int → Int → Prop} (hG : gr_G 1 n S) {k u v x y : Int} (hk : 6 ≤ k ∧ k < 12) (h2 : S 2 x y) (h : S k u v) : ∃ P Q : Int, gr_fx S 1 k P Q := by
  have hs : (1 : Int) = 0 ∨ (1 : Int) = 1 := Or.inr rfl
  have hr : mt_rd 1 = 6 := rfl
  have hk0 : 0 ≤ k ∧ k < 2 * mt_rd 1 := by omega
  have k2 : (0 : Int) ≤ 2 ∧ (2 : Int) < 2 * mt_rd 1 := by omega
  have k4 : (0 : Int) ≤ 4 ∧ (4 : Int) < 2 * mt_rd 1 := by omega
  obtain ⟨g1, g2, g3⟩ := gr_glide hs hG (k := k) ⟨by omega, by omega⟩ h
  generalize hX : u + mt_x 1 k u v = X at *
  generalize hY : v + mt_y 1 k u v = Y at *
  have g4 := gr_sh_lin hs hG k2 h2 g1
  have g5 := gr_sh hs hG hk0 g4 h
  have hd := gr_d1 ⟨k.toNat, by omega⟩ (by show 6 ≤ k.toNat; omega)
  simp only at hd
  rw [show ((k.toNat : Nat) : Int) = k by omega] at hd
  have e1 := gr_lp hs hk0 k2 X Y
  have e2 := gr_lp hs k4 hk0 X Y
  rw [hd.1, e2.1, e2.2, g2, g3, (gr_x1 X Y).2.2.2.1, (gr_x1 X Y).2.2.2.2] at e1
  refine ⟨_, _, gr_mir g5 ?_ ?_⟩
  · rw [(gr_lin 1 k _ _ _ _).1, ← e1.1, (gr_x1 X Y).2.1.1]; omega
  · rw [(gr_lin 1 k _ _ _ _).2, ← e1.2, (gr_x1 X Y).2.1.2]; omega
/-- turns of order 4, and one that turns over: a mirror -/
theorem gr_m4 {S : Int → Int → Int → Prop} (hG : gr_G 0 n S) {a b c : Int} (hL : gr_L S n a b c) {k u v x y : Int} (hk : 4 ≤ k ∧ k < 8) (h1 : S 1 x y) (h : S k u v) : ∃ j P Q : Int, (4 ≤ j ∧ j < 8) ∧ gr_fx S 0 j P Q := by
  have hs : (0 : Int) = 0 ∨ (0 : Int) = 1 := Or.inl rfl
  have hr : mt_rd 0 = 4 := rfl
  have hk0 : 0 ≤ k ∧ k < 2 * mt_rd 0 := by omega
  have k1 : (0 : Int) ≤ 1 ∧ (1 : Int) < 2 * mt_rd 0 := by omega
  have k2 : (0 : Int) ≤ 2 ∧ (2 : Int) < 2 * mt_rd 0 := by omega
  have hrot : ∀ i : Nat, i < 4 → ∃ p q : Int, S i p q := by
    have r2 := hG.2.1 1 1 x y x y k1 k1 h1 h1
    rw [gr_d2.1] at r2
    have r3 := hG.2.1 1 2 x y _ _ k1 k2 h1 r2
    rw [gr_d2.2.1] at r3
    intro i hi
    rcases (show i = 0 ∨ i = 1 ∨ i = 2 ∨ i = 3 by omega) with rfl | rfl | rfl | rfl
    · exact ⟨0, 0, hG.1⟩
    · exact ⟨x, y, h1⟩
    · exact ⟨_, _, r2⟩
    · exact ⟨_, _, r3⟩
  have hd := gr_d0 ⟨k.toNat, by omega⟩ (by show 4 ≤ k.toNat; omega)
  simp only at hd
  rw [show ((k.toNat : Nat) : Int) = k by omega] at hd
  obtain ⟨⟨i4, e4⟩, ⟨i5, e5⟩⟩ := hd
  obtain ⟨p4, q4, s4⟩ := hrot i4.val i4.isLt
  obtain ⟨p5, q5, s5⟩ := hrot i5.val i5.isLt
  have S4 := hG.2.1 _ _ _ _ _ _ (show 0 ≤ ((i4.val : Nat) : Int) ∧ ((i4.val : Nat) : Int) < 2 * mt_rd 0 by omega) hk0 s4 h
  have S5 := hG.2.1 _ _ _ _ _ _ (show 0 ≤ ((i5.val : Nat) : Int) ∧ ((i5.val : Nat) : Int) < 2 * mt_rd 0 by omega) hk0 s5 h
  rw [e4] at S4
  rw [e5] at S5
  generalize mt_x 0 (i4.val : Int) u v + p4 = u4 at *
  generalize mt_y 0 (i4.val : Int) u v + q4 = v4 at *
  generalize mt_x 0 (i5.val : Int) u v + p5 = u5 at *
  generalize mt_y 0 (i5.val : Int) u v + q5 = v5 at *
  obtain ⟨ha, hb, hc, -, -, hin, hS⟩ := id hL
  have ha0 : S 0 a 0 := (gr_L_a hL a).mpr (Int.dvd_refl _)
  rcases gr_sq hG hL h1 S4 with ⟨hb0, hac⟩ | ⟨hbc, hac⟩
  · have g1 := (gr_glide hs hG (k := 5) ⟨by omega, by omega⟩ S5).1
    rw [(gr_x0 u5 v5).2.2.2.1, (gr_x0 u5 v5).2.2.2.2] at g1
    have g2 := (hin _ _).mp g1
    unfold mt_in at g2
    rw [hb0, Int.mul_zero, Int.sub_zero, Int.sub_zero, Int.sub_zero] at g2
    have g3 := gr_sneg hs hG ((gr_L_a hL _).mpr g2.2)
    have g4 := gr_sh hs hG (show 0 ≤ (5 : Int) ∧ (5 : Int) < 2 * mt_rd 0 by omega) g3 S5
    refine ⟨5, _, _, by decide, gr_mir g4 ?_ ?_⟩
    · rw [(gr_x0 _ _).2.2.2.1]; omega
    · rw [(gr_x0 _ _).2.2.2.2]; omega
  · have g1 := (gr_glide hs hG (k := 4) ⟨by omega, by omega⟩ S4).1
    rw [(gr_x0 u4 v4).2.2.1.1, (gr_x0 u4 v4).2.2.1.2, show v4 + -v4 = 0 by omega] at g1
    have g2 := (gr_L_a hL _).mp g1
    rw [hac] at g2
    obtain ⟨e, he⟩ := g2
    have he2 : u4 = e * c := by
      rw [Int.mul_assoc, Int.mul_comm c e] at he
      omega
    have hcc : S 0 c c := by rw [hbc] at hS; exact hS
    have g3 := gr_sneg hs hG (gr_smul hs hG hcc e)
    rw [← he2] at g3
    have g4 := gr_sh hs hG (show 0 ≤ (4 : Int) ∧ (4 : Int) < 2 * mt_rd 0 by omega) g3 S4
    refine ⟨4, _, _, by decide, gr_mir g4 ?_ ?_⟩
    · rw [(gr_x0 _ _).2.2.1.1]; omega
    · rw [(gr_x0 _ _).2.2.1.2]
/-- a place of six turns, and one that turns over: mirrors there -/
theorem gr_m6 {S : Int → Int → Int → Prop} (hG : gr_G 1 n S) {k u v P Q : Int} (hk : 6 ≤ k ∧ k < 12) (h : S k u v) (hf : gr_fx S 1 1 P Q) : gr_fx S 1 k P Q := by
  have hs : (1 : Int) = 0 ∨ (1 : Int) = 1 := Or.inr rfl
  have hr : mt_rd 1 = 6 := rfl
  have hk0 : 0 ≤ k ∧ k < 2 * mt_rd 1 := by omega
  have k1 : (0 : Int) ≤ 1 ∧ (1 : Int) < 2 * mt_rd 1 := by omega
  have k5 : (0 : Int) ≤ 5 ∧ (5 : Int) < 2 * mt_rd 1 := by omega
  have hd := gr_d1 ⟨k.toNat, by omega⟩ (by show 6 ≤ k.toNat; omega)
  simp only at hd
  rw [show ((k.toNat : Nat) : Int) = k by omega] at hd
  have hf2 := gr_fx_cj hs hG hk0 k1 h hf
  rw [hd.2.1] at hf2
  have hf3 := gr_fx_inv hs hG k5 hf2
  rw [hd.2.2.2.1] at hf3
  obtain ⟨r, t, a1, a2, a3⟩ := hf
  obtain ⟨r', t', b1, b2, b3⟩ := hf3
  have hdl := (gr_two hs hG k1 a1).mp b1
  have hrl := gr_sh_lin hs hG k1 b1 hdl
  rw [(gr_x1 _ _).1.1, (gr_x1 _ _).1.2] at hrl
  rw [(gr_x1 _ _).1.1] at a2 b2
  rw [(gr_x1 _ _).1.2] at a3 b3
  have hS := gr_sh hs hG hk0 (gr_sneg hs hG hrl) h
  refine ⟨_, _, hS, ?_, ?_⟩ <;> omega
/-- a place of three turns, and one that turns over: mirrors at such a place -/
theorem gr_m3c {S : Int → Int → Int → Prop} (hG : gr_G 1 n S) {k u v P Q : Int} (hk : 6 ≤ k ∧ k < 12) (h : S k u v) (hf : gr_fx S 1 2 P Q) : ∃ P' Q' : Int, gr_fx S 1 2 P' Q' ∧ gr_fx S 1 k P' Q' := by
  have hs : (1 : Int) = 0 ∨ (1 : Int) = 1 := Or.inr rfl
  have hr : mt_rd 1 = 6 := rfl
  have hk0 : 0 ≤ k ∧ k < 2 * mt_rd 1 := by omega
  have k2 : (0 : Int) ≤ 2 ∧ (2 : Int) < 2 * mt_rd 1 := by omega
  have k4 : (0 : Int) ≤ 4 ∧ (4 : Int) < 2 * mt_rd 1 := by omega
  have hd := gr_d1 ⟨k.toNat, by omega⟩ (by show 6 ≤ k.toNat; omega)
  simp only at hd
  rw [show ((k.toNat : Nat) : Int) = k by omega] at hd
  have hf2 := gr_fx_cj hs hG hk0 k2 h hf
  rw [hd.2.2.1] at hf2
  have hf3 := gr_fx_inv hs hG k4 hf2
  rw [hd.2.2.2.2] at hf3
  obtain ⟨g1, -, -⟩ := gr_glide hs hG (k := k) ⟨by omega, by omega⟩ h
  obtain ⟨r, t, a1, a2, a3⟩ := hf
  obtain ⟨r', t', b1, b2, b3⟩ := hf3
  have hdl := (gr_two hs hG k2 a1).mp b1
  have hrl := gr_sh_lin hs hG k2 b1 hdl
  rw [(gr_x1 _ _).2.1.1, (gr_x1 _ _).2.1.2] at hrl
  rw [(gr_x1 _ _).2.1.1] at a2 b2
  rw [(gr_x1 _ _).2.1.2] at a3 b3
  -- T = gP - P; 3 T = 6 (2 d + sigma d)
  generalize hT1 : mt_x 1 k P Q + 6 * u - P = T1 at *
  generalize hT2 : mt_y 1 k P Q + 6 * v - Q = T2 at *
  have hmu := gr_sh hs hG (gr_0k hs) hrl (gr_smul hs hG hdl 2)
  have hN2 := gr_sneg hs hG (gr_smul hs hG g1 2)
  have hw := gr_sh hs hG hk0 hN2 (gr_sh hs hG hk0 hmu h)
  have hr2 := gr_sh hs hG k2 (gr_smul hs hG hdl 2) a1
  -- M T
  have eM := gr_inv2 hs (k := k) ⟨by omega, by omega⟩ P Q
  have eT := gr_lin 1 k (mt_x 1 k P Q) (mt_y 1 k P Q) (6 * u) (6 * v)
  rw [eM.1, eM.2, (gr_sc 1 k 6 u v).1, (gr_sc 1 k 6 u v).2, show mt_x 1 k P Q + 6 * u = P + T1 by omega, show mt_y 1 k P Q + 6 * v = Q + T2 by omega, (gr_lin 1 k P Q T1 T2).1, (gr_lin 1 k P Q T1 T2).2] at eT
  have eP := gr_lin 1 k P Q (2 * T1) (2 * T2)
  rw [(gr_sc 1 k 2 T1 T2).1, (gr_sc 1 k 2 T1 T2).2] at eP
  refine ⟨P + 2 * T1, Q + 2 * T2, ⟨_, _, hr2, ?_, ?_⟩, ⟨_, _, hw, ?_, ?_⟩⟩
  · rw [(gr_x1 _ _).2.1.1]; omega
  · rw [(gr_x1 _ _).2.1.2]; omega
  · rw [eP.1]; omega
  · rw [eP.2]; omega
end
section
variable {s n : Int} {S : Int → Int → Int → Prop}
/-- mirrors across each other meet at a place -/
theorem gr_m2 (hs : s = 0 ∨ s = 1) (hG : gr_G s n S) {k j P Q P' Q' : Int} (hk : mt_rd s ≤ k ∧ k < 2 * mt_rd s) (hj : mt_rd s ≤ j ∧ j < 2 * mt_rd s) (hneg : ∀ x y : Int, mt_x s j x y = -mt_x s k x y ∧ mt_y s j x y = -mt_y s k x y) (h : gr_fx S s k P Q) (h' : gr_fx S s j P' Q') : ∃ X Y : Int, gr_fx S s k X Y ∧ gr_fx S s j X Y := by
  obtain ⟨u, v, a1, a2, a3⟩ := h
  obtain ⟨x, y, b1, b2, b3⟩ := h'
  have e1 := gr_mir_of a2 a3 (gr_inv2 hs hk)
  have e2 := gr_mir_of b2 b3 (gr_inv2 hs hj)
  have e3 := hneg x y
  have e4 := hneg u v
  refine ⟨3 * (u + x), 3 * (v + y), ⟨u, v, a1, ?_, ?_⟩, ⟨x, y, b1, ?_, ?_⟩⟩
  · rw [(gr_sc s k 3 _ _).1, (gr_lin s k _ _ _ _).1]; omega
  · rw [(gr_sc s k 3 _ _).2, (gr_lin s k _ _ _ _).2]; omega
  · rw [(gr_sc s j 3 _ _).1, (gr_lin s j _ _ _ _).1]; omega
  · rw [(gr_sc s j 3 _ _).2, (gr_lin s j _ _ _ _).2]; omega
end
