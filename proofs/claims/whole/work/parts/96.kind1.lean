/-! kinds: what places there are -/
section
variable {h : pg_H} {col : Nat → Int} {s n : Int}
theorem gr_ix_t (hs : s = 0 ∨ s = 1) (hn : 1 ≤ n ∧ n ≤ 12) (P Q : Int) : mt_tu col s n (gr_ix n P Q) = gr_t (mt_sym col s n) s P Q ∧ mt_mi col s n (gr_ix n P Q) = gr_m (mt_sym col s n) s P Q := by
  have hG := gr_sym_G col hs hn.1
  have a := gr_ix_at hn.1 P Q
  have b := gr_t_mod hs hG P Q
  rw [gr_tu hs hn (by omega), gr_mi hs hn (by omega), a.2.1, a.2.2]
  exact b
theorem gr_ti (hs : s = 0 ∨ s = 1) (hn : 1 ≤ n ∧ n ≤ 12) {i : Nat} (hi : i < (6 * n * (6 * n)).toNat) : mt_tu col s n i = gr_t (mt_sym col s n) s ((i : Int) % (6 * n)) ((i : Int) / (6 * n)) ∧ mt_mi col s n i = gr_m (mt_sym col s n) s ((i : Int) % (6 * n)) ((i : Int) / (6 * n)) := ⟨gr_tu hs hn (by omega), gr_mi hs hn (by omega)⟩
theorem gr_cc_pos (hs : s = 0 ∨ s = 1) (hn : 1 ≤ n ∧ n ≤ 12) (r w : Int) : 0 < mt_cc col s n r w ↔ ∃ P Q : Int, gr_t (mt_sym col s n) s P Q = r ∧ (0 < gr_m (mt_sym col s n) s P Q ↔ w = 1) := by
  have hQ := gr_R_eq (col := col) hs hn
  unfold mt_cc
  rw [pg_cn_pos]
  constructor
  · rintro ⟨i, i1, i2, i3, i4⟩
    have e := gr_ti (col := col) hs hn i1
    rw [e.1] at i3
    rw [e.2] at i4
    exact ⟨_, _, i3, i4⟩
  · rintro ⟨P, Q, h1, h2⟩
    have a := gr_ix_at hn.1 P Q
    have b := gr_ix_t (col := col) hs hn P Q
    obtain ⟨r0, r1, r2, r3⟩ := gr_rep hQ a.1
    have c := gr_tuR hs hn (show r0 < (6 * n * (6 * n)).toNat by omega) a.1 r2
    refine ⟨r0, by omega, (gr_cl_rp hQ (by omega)).mpr r3, ?_, ?_⟩
    · rw [← c.1, b.1]; exact h1
    · rw [← c.2, b.2]; exact h2
theorem gr_hp (hs : s = 0 ∨ s = 1) (hn : 1 ≤ n ∧ n ≤ 12) (r w : Int) : mt_hp col s n r w (6 * n * (6 * n)).toNat ↔ ∃ P Q : Int, gr_t (mt_sym col s n) s P Q = r ∧ (0 < gr_m (mt_sym col s n) s P Q ↔ w = 1) := by
  constructor
  · rintro ⟨i, i1, i3, i4⟩
    have e := gr_ti (col := col) hs hn i1
    rw [e.1] at i3
    rw [e.2] at i4
    exact ⟨_, _, i3, i4⟩
  · rintro ⟨P, Q, h1, h2⟩
    have b := gr_ix_t (col := col) hs hn P Q
    exact ⟨_, (gr_ix_at hn.1 P Q).1, by rw [b.1]; exact h1, by rw [b.2]; exact h2⟩
theorem gr_hm (hs : s = 0 ∨ s = 1) (hn : 1 ≤ n ∧ n ≤ 12) : mt_hm col s n (6 * n * (6 * n)).toNat ↔ ∃ P Q : Int, 0 < gr_m (mt_sym col s n) s P Q := by
  constructor
  · rintro ⟨i, i1, i3⟩
    rw [(gr_ti (col := col) hs hn i1).2] at i3
    exact ⟨_, _, i3⟩
  · rintro ⟨P, Q, h1⟩
    exact ⟨_, (gr_ix_at hn.1 P Q).1, by rw [(gr_ix_t (col := col) hs hn P Q).2]; exact h1⟩
theorem gr_mx (hs : s = 0 ∨ s = 1) (hn : 1 ≤ n ∧ n ≤ 12) : (∀ P Q : Int, gr_t (mt_sym col s n) s P Q ≤ mt_mx col s n (6 * n * (6 * n)).toNat) ∧ ∃ P Q : Int, gr_t (mt_sym col s n) s P Q = mt_mx col s n (6 * n * (6 * n)).toNat := by
  have hG := gr_sym_G col hs hn.1
  have h66 := mt_66 hn.1 hn.2
  obtain ⟨b1, b2, b3⟩ := gr_mxx (f := mt_tu col s n) (g := mt_mx col s n) (e := 0) rfl (fun m => rfl) (6 * n * (6 * n)).toNat
  have hle : ∀ P Q : Int, gr_t (mt_sym col s n) s P Q ≤ mt_mx col s n (6 * n * (6 * n)).toNat := fun P Q => by
    rw [← (gr_ix_t (col := col) hs hn P Q).1]
    exact b1 _ (gr_ix_at hn.1 P Q).1
  refine ⟨hle, ?_⟩
  rcases b3 with h0 | ⟨i, i1, i2⟩
  · have := hle 0 0
    have := gr_t1 hs hG 0 0
    omega
  · exact ⟨_, _, by rw [i2, (gr_ti (col := col) hs hn i1).1]⟩
theorem gr_fx_m {S : Int → Int → Int → Prop} (hs : s = 0 ∨ s = 1) {k P Q : Int} (hk : mt_rd s ≤ k ∧ k < 2 * mt_rd s) (h : gr_fx S s k P Q) : 0 < gr_m S s P Q := by
  have hr := mt_rd_or hs
  refine pg_cn_pos.mpr ⟨(k - mt_rd s).toNat, by omega, ?_⟩
  rw [show mt_rd s + (((k - mt_rd s).toNat : Nat) : Int) = k by omega]
  exact h
theorem gr_mkk (hs : s = 0 ∨ s = 1) (hn : 1 ≤ n ∧ n ≤ 12) {k : Nat} (hk : mt_rd s ≤ (k : Int) ∧ (k : Int) < 2 * mt_rd s) : mt_mk col s n k (6 * n * (6 * n)).toNat ↔ ∃ P Q : Int, gr_fx (mt_sym col s n) s k P Q := by
  have hr := mt_rd_or hs
  have hG := gr_sym_G col hs hn.1
  constructor
  · rintro ⟨i, i1, -, i3⟩
    exact ⟨_, _, (gr_fk hs hn hk.2 (by omega)).mp i3⟩
  · rintro ⟨P, Q, h1⟩
    have a := gr_ix_at hn.1 P Q
    have h2 := (gr_fx_mod (n := n) hs hG (show 0 ≤ (k : Int) ∧ (k : Int) < 2 * mt_rd s by omega) P Q).mpr h1
    refine ⟨gr_ix n P Q, a.1, ?_, (gr_fk hs hn hk.2 (by omega)).mpr (by rw [a.2.1, a.2.2]; exact h2)⟩
    rw [(gr_ix_t (col := col) hs hn P Q).2]
    exact gr_fx_m hs hk h1
/-- edges there are where mirrors are -/
theorem gr_E0 (hs : s = 0 ∨ s = 1) (hn : 1 ≤ n ∧ n ≤ 12) (hD : gr_D h s n (mt_sym col s n)) (hS : sg_D h s) : h 15 7 = pg_cn (gr_rC h s) (h 15 5 * h 15 6).toNat ∧ (0 < h 15 7 ↔ ∃ P Q : Int, 0 < gr_m (mt_sym col s n) s P Q) := by
  obtain ⟨hW, ⟨h7, -⟩, -⟩ := hS
  have ha := hD.2.1.1
  have hc := hD.2.1.2.2.1
  have hB : h 15 5 * h 15 6 ≤ 5184 := by
    rw [hW.1, hW.2]
    exact Int.le_trans (Int.mul_le_mul (show 6 * h 10 4 ≤ 72 by omega) (show 6 * h 10 6 ≤ 72 by omega) (by omega) (by omega)) (by decide)
  have hBe : h 15 5 * h 15 6 = 6 * h 10 4 * (6 * h 10 6) := by rw [hW.1, hW.2]
  have hsm : ∀ m : Nat, (sg_m h s m ≠ 0 ↔ 0 < gr_m (mt_sym col s n) s ((m : Int) % h 15 5) ((m : Int) / h 15 5)) := fun m => by
    rw [(gr_sgt hD hs hW m).2, hW.1]
    have h1 : 0 ≤ gr_m (mt_sym col s n) s ((m : Int) % (6 * h 10 4)) ((m : Int) / (6 * h 10 4)) := (pg_cn_bd _ _).1
    omega
  rw [gr_E_cn] at h7
  refine ⟨h7, ?_⟩
  rw [h7, pg_cn_pos]
  constructor
  · rintro ⟨m, m1, m2⟩
    exact ⟨_, _, (hsm m).mp m2.1⟩
  · rintro ⟨P, Q, h1⟩
    obtain ⟨m0, m1, x, y, m2, m3, m4⟩ := gr_cell hs hD P Q
    rw [m3, m4, (gr_t_sh hs hD.1 m2).2, ← hW.1] at h1
    obtain ⟨-, -, -, e4, e5⟩ := gr_E_in hs hD hW hB (h 15 5 * h 15 6).toNat (by omega)
    obtain ⟨m, n1, n2, -⟩ := e4 _ (e5 m0 (by omega) ((hsm m0).mpr h1))
    exact ⟨m, by omega, n2⟩
end
section
variable {s n : Int} {S : Int → Int → Int → Prop}
/-- a mirror that goes back by itself fixes a place -/
theorem gr_mir {k u v : Int} (h : S k u v) (h1 : mt_x s k u v = -u) (h2 : mt_y s k u v = -v) : gr_fx S s k (3 * u) (3 * v) := by
  refine ⟨u, v, h, ?_, ?_⟩
  · rw [(gr_sc s k 3 u v).1, h1]; omega
  · rw [(gr_sc s k 3 u v).2, h2]; omega
theorem gr_mir_of {k P Q u v : Int} (h1 : mt_x s k P Q + 6 * u = P) (h2 : mt_y s k P Q + 6 * v = Q) (hk2 : ∀ x y : Int, mt_x s k (mt_x s k x y) (mt_y s k x y) = x ∧ mt_y s k (mt_x s k x y) (mt_y s k x y) = y) : mt_x s k u v = -u ∧ mt_y s k u v = -v := by
  have e := gr_lin s k (mt_x s k P Q) (mt_y s k P Q) (6 * u) (6 * v)
  rw [h1, h2, (hk2 P Q).1, (hk2 P Q).2, (gr_sc s k 6 u v).1, (gr_sc s k 6 u v).2] at e
  omega
theorem gr_sq0 : ∀ s : Fin 2, ∀ k : Fin 12, mt_rd (s.val : Int) ≤ (k.val : Int) → (k.val : Int) < 2 * mt_rd (s.val : Int) → mt_li (s.val : Int) (k.val : Int) = (k.val : Int) := by decide +kernel
theorem gr_inv2 (hs : s = 0 ∨ s = 1) {k : Int} (hk : mt_rd s ≤ k ∧ k < 2 * mt_rd s) (x y : Int) : mt_x s k (mt_x s k x y) (mt_y s k x y) = x ∧ mt_y s k (mt_x s k x y) (mt_y s k x y) = y := by
  have hr := mt_rd_or hs
  have h := gr_sq0 ⟨s.toNat, by omega⟩ ⟨k.toNat, by omega⟩
  simp only at h
  rw [show ((s.toNat : Nat) : Int) = s by omega, show ((k.toNat : Nat) : Int) = k by omega] at h
  have h1 := (gr_li hs (show 0 ≤ k ∧ k < 2 * mt_rd s by omega) x y).1
  rw [h hk.1 hk.2] at h1
  exact h1
/-- a turn over, twice, is a shift along its axis -/
theorem gr_glide (hs : s = 0 ∨ s = 1) (hG : gr_G s n S) {k u v : Int} (hk : mt_rd s ≤ k ∧ k < 2 * mt_rd s) (h : S k u v) : S 0 (u + mt_x s k u v) (v + mt_y s k u v) ∧ mt_x s k (u + mt_x s k u v) (v + mt_y s k u v) = u + mt_x s k u v ∧ mt_y s k (u + mt_x s k u v) (v + mt_y s k u v) = v + mt_y s k u v := by
  have hr := mt_rd_or hs
  have hk0 : 0 ≤ k ∧ k < 2 * mt_rd s := by omega
  have h1 := hG.2.1 k k u v u v hk0 hk0 h h
  have h2 := gr_sq0 ⟨s.toNat, by omega⟩ ⟨k.toNat, by omega⟩
  simp only at h2
  rw [show ((s.toNat : Nat) : Int) = s by omega, show ((k.toNat : Nat) : Int) = k by omega] at h2
  have h3 := (gr_lib hs hk0).2.2
  rw [h2 hk.1 hk.2] at h3
  rw [h3, Int.add_comm, Int.add_comm (mt_y s k u v)] at h1
  have h4 := gr_inv2 hs hk u v
  refine ⟨h1, ?_, ?_⟩
  · rw [(gr_lin s k _ _ _ _).1, h4.1]; omega
  · rw [(gr_lin s k _ _ _ _).2, h4.2]; omega
end
