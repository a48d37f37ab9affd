/-! edges: what hangs together, on the class's side -/
theorem bf_ind {P : Int → Prop} {S : Int → List Int} (hS : ∀ x, P x → ∀ y ∈ S x, P y) : ∀ (F j : Nat) (L : List Int), (∀ x ∈ L, P x) → ∀ x ∈ bf S F j L, P x := by
  intro F
  induction F with
  | zero => intro j L h; exact h
  | succ F ih =>
    intro j L h
    simp only [bf]
    split
    · next x hx => exact ih (j + 1) _ (bf_ads_in _ _ h (hS x (h x (List.mem_of_getElem? hx))))
    · exact h
theorem bf_ads_mem (A : List Int) : ∀ (L : List Int) (x : Int), x ∈ bf_ads L A ↔ x ∈ L ∨ x ∈ A := by
  induction A with
  | nil => intro L x; simp [bf_ads]
  | cons a r ih =>
    intro L x
    show x ∈ bf_ads (bf_add L a) r ↔ _
    rw [ih, bf_add_mem, List.mem_cons, or_assoc]
theorem bf_sup {S : Int → List Int} : ∀ (F j : Nat) (L : List Int) (x : Int), x ∈ L → x ∈ bf S F j L := by
  intro F
  induction F with
  | zero => intro j L x h; exact h
  | succ F ih =>
    intro j L x h
    simp only [bf]
    split
    · exact ih _ _ _ ((bf_ads_mem _ _ _).mpr (Or.inl h))
    · exact h
theorem bf_pre {S : Int → List Int} : ∀ (F j : Nat) (L : List Int) (i : Nat), i < L.length → (bf S F j L)[i]? = L[i]? := by
  intro F
  induction F with
  | zero => intro j L i h; rfl
  | succ F ih =>
    intro j L i h
    simp only [bf]
    split
    · rw [ih _ _ i (Nat.lt_of_lt_of_le h (bf_ads_len _ _)), bf_ads_pre _ _ h]
    · rfl
theorem bf_add_nd {L : List Int} {p : Int} (h : L.Nodup) : (bf_add L p).Nodup := by
  unfold bf_add
  split
  · exact h
  · next hp =>
    rw [List.nodup_append]
    refine ⟨h, by simp, fun a ha b hb => ?_⟩
    rw [List.mem_singleton.mp hb]
    exact fun e => hp (by rw [← e]; exact ha)
theorem bf_ads_nd (A : List Int) : ∀ L : List Int, L.Nodup → (bf_ads L A).Nodup := by
  induction A with
  | nil => intro L h; exact h
  | cons a r ih => intro L h; exact ih _ (bf_add_nd h)
theorem bf_nd {S : Int → List Int} : ∀ (F j : Nat) (L : List Int), L.Nodup → (bf S F j L).Nodup := by
  intro F
  induction F with
  | zero => intro j L h; exact h
  | succ F ih =>
    intro j L h
    simp only [bf]
    split
    · exact ih _ _ (bf_ads_nd _ _ h)
    · exact h
theorem list_len_le {B : Nat} : ∀ (L : List Int), L.Nodup → (∀ x ∈ L, 0 ≤ x ∧ x < B) → (L.length : Int) = pg_cn (fun p => (p : Int) ∈ L) B := by
  intro L
  induction L with
  | nil => intro _ _; exact (pg_cn_0 (fun j _ h => by cases h)).symm
  | cons a L ih =>
    intro hd hb
    have hd2 := List.nodup_cons.mp hd
    have ha := hb a List.mem_cons_self
    have h1 := ih hd2.2 (fun x hx => hb x (List.mem_cons_of_mem _ hx))
    have h2 := pg_cn_one (P := fun p : Nat => (p : Int) ∈ L) (P' := fun p : Nat => (p : Int) ∈ a :: L) (z := a.toNat) (m := B) (by omega) (by rw [show ((a.toNat : Nat) : Int) = a by omega]; exact hd2.1) (fun q hq => by
      rw [List.mem_cons]
      exact ⟨fun h => h.elim (fun h => absurd (by omega) hq) id, Or.inr⟩)
    rw [pg_b_t (by rw [show ((a.toNat : Nat) : Int) = a by omega]; exact List.mem_cons_self)] at h2
    rw [h2, ← h1]
    simp
/-- all is gone through -/
theorem bf_cl {S : Int → List Int} {B : Nat} (hS : ∀ x, (0 ≤ x ∧ x < (B : Int)) → ∀ y ∈ S x, 0 ≤ y ∧ y < (B : Int)) : ∀ (F j : Nat) (L : List Int), B ≤ F + j → L.Nodup → (∀ x ∈ L, 0 ≤ x ∧ x < (B : Int)) → ∀ (i : Nat) (x : Int), j ≤ i → (bf S F j L)[i]? = some x → ∀ y ∈ S x, y ∈ bf S F j L := by
  intro F
  induction F with
  | zero =>
    intro j L hF hd hb i x hi hx y hy
    exfalso
    have h1 : L[i]? = some x := hx
    have h2 := (List.getElem?_eq_some_iff.mp h1).1
    have h3 := list_len_le L hd hb
    have h4 := pg_cn_bd (fun p => (p : Int) ∈ L) B
    omega
  | succ F ih =>
    intro j L hF hd hb i x hi hx y hy
    simp only [bf] at hx ⊢
    cases hj : L[j]? with
    | none =>
      rw [hj] at hx
      simp only at hx
      have h2 := (List.getElem?_eq_some_iff.mp hx).1
      have h3 := List.getElem?_eq_none_iff.mp hj
      omega
    | some z =>
      rw [hj] at hx
      simp only at hx ⊢
      have hz := hb z (List.mem_of_getElem? hj)
      have hd2 := bf_ads_nd (S z) L hd
      have hb2 : ∀ x ∈ bf_ads L (S z), 0 ≤ x ∧ x < (B : Int) := bf_ads_in _ _ hb (hS z hz)
      rcases (show i = j ∨ j + 1 ≤ i by omega) with rfl | h1
      · have hl := (List.getElem?_eq_some_iff.mp hj).1
        rw [bf_pre _ _ _ i (Nat.lt_of_lt_of_le hl (bf_ads_len _ _)), bf_ads_pre _ _ hl, hj] at hx
        rw [← Option.some.inj hx] at hy
        exact bf_sup _ _ _ _ ((bf_ads_mem _ _ _).mpr (Or.inr hy))
      · exact ih (j + 1) _ (by omega) hd2 hb2 i x h1 hx y hy
/-- a set of places that moves of the group and steps along mirrors keep -/
def gr_Iv (S : Int → Int → Int → Prop) (s : Int) (f : Int → Int → Prop) : Prop := (∀ j x y P Q : Int, (0 ≤ j ∧ j < 2 * mt_rd s) → S j x y → (f (mt_x s j P Q + 6 * x) (mt_y s j P Q + 6 * y) ↔ f P Q)) ∧ ∀ k P Q : Int, (mt_rd s ≤ k ∧ k < 2 * mt_rd s) → gr_fx S s k P Q → (f (P + (ri_ax s k 25).2.1) (Q + (ri_ax s k 25).2.2) ↔ f P Q)
/-- two places hang together -/
def gr_Cn (S : Int → Int → Int → Prop) (s P Q P' Q' : Int) : Prop := ∀ f : Int → Int → Prop, gr_Iv S s f → (f P Q ↔ f P' Q')
theorem gr_ax0 : ∀ s : Fin 2, ∀ k : Fin 12, mt_rd (s.val : Int) ≤ (k.val : Int) → (k.val : Int) < 2 * mt_rd (s.val : Int) → (mt_x (s.val : Int) (k.val : Int) (ri_ax (s.val : Int) (k.val : Int) 25).2.1 (ri_ax (s.val : Int) (k.val : Int) 25).2.2 = (ri_ax (s.val : Int) (k.val : Int) 25).2.1 ∧ mt_y (s.val : Int) (k.val : Int) (ri_ax (s.val : Int) (k.val : Int) 25).2.1 (ri_ax (s.val : Int) (k.val : Int) 25).2.2 = (ri_ax (s.val : Int) (k.val : Int) 25).2.2) ∧ ((mt_ax (s.val : Int) (2 * ((k.val : Int) - mt_rd (s.val : Int))) = (ri_ax (s.val : Int) (k.val : Int) 25).2.1 ∧ mt_ax (s.val : Int) (2 * ((k.val : Int) - mt_rd (s.val : Int)) + 1) = (ri_ax (s.val : Int) (k.val : Int) 25).2.2) ∨ (mt_ax (s.val : Int) (2 * ((k.val : Int) - mt_rd (s.val : Int))) = -(ri_ax (s.val : Int) (k.val : Int) 25).2.1 ∧ mt_ax (s.val : Int) (2 * ((k.val : Int) - mt_rd (s.val : Int)) + 1) = -(ri_ax (s.val : Int) (k.val : Int) 25).2.2)) := by decide +kernel
theorem gr_ax {s k : Int} (hs : s = 0 ∨ s = 1) (hk : mt_rd s ≤ k ∧ k < 2 * mt_rd s) : (mt_x s k (ri_ax s k 25).2.1 (ri_ax s k 25).2.2 = (ri_ax s k 25).2.1 ∧ mt_y s k (ri_ax s k 25).2.1 (ri_ax s k 25).2.2 = (ri_ax s k 25).2.2) ∧ ((mt_ax s (2 * (k - mt_rd s)) = (ri_ax s k 25).2.1 ∧ mt_ax s (2 * (k - mt_rd s) + 1) = (ri_ax s k 25).2.2) ∨ (mt_ax s (2 * (k - mt_rd s)) = -(ri_ax s k 25).2.1 ∧ mt_ax s (2 * (k - mt_rd s) + 1) = -(ri_ax s k 25).2.2)) := by
  have hr := mt_rd_or hs
  have h := gr_ax0 ⟨s.toNat, by omega⟩ ⟨k.toNat, by omega⟩
  simp only at h
  rw [show ((s.toNat : Nat) : Int) = s by omega, show ((k.toNat : Nat) : Int) = k by omega] at h
  exact h hk.1 hk.2
section
variable {s n : Int} {S : Int → Int → Int → Prop}
theorem gr_fx_ax (hs : s = 0 ∨ s = 1) {k P Q : Int} (hk : mt_rd s ≤ k ∧ k < 2 * mt_rd s) (h : gr_fx S s k P Q) (t : Int) : gr_fx S s k (P + t * (ri_ax s k 25).2.1) (Q + t * (ri_ax s k 25).2.2) := by
  obtain ⟨u, v, h1, h2, h3⟩ := h
  have ha := (gr_ax hs hk).1
  refine ⟨u, v, h1, ?_, ?_⟩
  · rw [(gr_lin s k _ _ _ _).1, (gr_sc s k _ _ _).1, ha.1]
    omega
  · rw [(gr_lin s k _ _ _ _).2, (gr_sc s k _ _ _).2, ha.2]
    omega
theorem gr_Cn_g {j x y P Q : Int} (hj : 0 ≤ j ∧ j < 2 * mt_rd s) (h : S j x y) : gr_Cn S s P Q (mt_x s j P Q + 6 * x) (mt_y s j P Q + 6 * y) := fun f hf => (hf.1 j x y P Q hj h).symm
theorem gr_Cn_sh (hs : s = 0 ∨ s = 1) {x y P Q : Int} (h : S 0 x y) : gr_Cn S s P Q (P + 6 * x) (Q + 6 * y) := by
  have h1 := gr_Cn_g (P := P) (Q := Q) (gr_0k hs) h
  rwa [(mt_x0 s _ _).1, (mt_x0 s _ _).2] at h1
theorem gr_Cn_ax {k P Q : Int} (hk : mt_rd s ≤ k ∧ k < 2 * mt_rd s) (h : gr_fx S s k P Q) : gr_Cn S s P Q (P + (ri_ax s k 25).2.1) (Q + (ri_ax s k 25).2.2) := fun f hf => (hf.2 k P Q hk h).symm
theorem gr_Cn_cx (hs : s = 0 ∨ s = 1) {k P Q : Int} (hk : mt_rd s ≤ k ∧ k < 2 * mt_rd s) (h : gr_fx S s k P Q) : gr_Cn S s P Q (P + mt_ax s (2 * (k - mt_rd s))) (Q + mt_ax s (2 * (k - mt_rd s) + 1)) := by
  rcases (gr_ax hs hk).2 with ⟨e1, e2⟩ | ⟨e1, e2⟩
  · rw [e1, e2]
    exact gr_Cn_ax hk h
  · rw [e1, e2]
    have h1 := gr_fx_ax hs hk h (-1)
    rw [Int.neg_mul, Int.one_mul, Int.neg_mul, Int.one_mul] at h1
    have h2 := gr_Cn_ax hk h1
    intro f hf
    have h3 := h2 f hf
    rw [show P + -(ri_ax s k 25).2.1 + (ri_ax s k 25).2.1 = P by omega, show Q + -(ri_ax s k 25).2.2 + (ri_ax s k 25).2.2 = Q by omega] at h3
    exact h3.symm
theorem gr_Cn_sy {P Q P' Q' : Int} (h : gr_Cn S s P Q P' Q') : gr_Cn S s P' Q' P Q := fun f hf => (h f hf).symm
theorem gr_Cn_tr {P Q P' Q' P'' Q'' : Int} (h : gr_Cn S s P Q P' Q') (h' : gr_Cn S s P' Q' P'' Q'') : gr_Cn S s P Q P'' Q'' := fun f hf => (h f hf).trans (h' f hf)
/-- mirrors are kept -/
theorem gr_Iv_m (hs : s = 0 ∨ s = 1) (hG : gr_G s n S) : gr_Iv S s (fun P Q => 0 < gr_m S s P Q) := by
  have hr := mt_rd_or hs
  refine ⟨fun j x y P Q hj h => ?_, fun k P Q hk h => ?_⟩
  · show 0 < gr_m S s _ _ ↔ 0 < gr_m S s _ _
    rw [(gr_t_eq hs hG hj h).2]
  · have h1 := gr_fx_ax hs hk h 1
    rw [Int.one_mul, Int.one_mul] at h1
    have e : mt_rd s + (((k - mt_rd s).toNat : Nat) : Int) = k := by omega
    exact ⟨fun _ => pg_cn_pos.mpr ⟨(k - mt_rd s).toNat, by omega, by rw [e]; exact h⟩, fun _ => pg_cn_pos.mpr ⟨(k - mt_rd s).toNat, by omega, by rw [e]; exact h1⟩⟩
end
section
variable {h : pg_H} {s n : Int} {S : Int → Int → Int → Prop}
/-- a place, brought into the cell -/
theorem gr_rd (hs : s = 0 ∨ s = 1) (hD : gr_D h s n S) (hW : sg_W h) (P Q : Int) : (0 ≤ sg_rd h P Q ∧ sg_rd h P Q < h 15 5 * h 15 6) ∧ ∃ x y : Int, S 0 x y ∧ P = sg_rd h P Q % h 15 5 + 6 * x ∧ Q = sg_rd h P Q / h 15 5 + 6 * y := by
  obtain ⟨hG, hL, -⟩ := hD
  obtain ⟨ha, hb, hc, -, -, -, hS⟩ := id hL
  unfold sg_rd
  rw [hW.1, hW.2]
  generalize h 10 4 = a at *
  generalize h 10 5 = b at *
  generalize h 10 6 = c at *
  have e1 := Int.emod_add_mul_ediv Q (6 * c)
  have q1 := mt_mod (n := 6 * c) (by omega) Q
  rw [show Q - Q / (6 * c) * (6 * c) = Q % (6 * c) by rw [Int.mul_comm]; omega]
  generalize Q / (6 * c) = t at *
  generalize Q % (6 * c) = V at *
  have e2 := Int.emod_add_mul_ediv (P - 6 * b * t) (6 * a)
  have q2 := mt_mod (n := 6 * a) (by omega) (P - 6 * b * t)
  generalize (P - 6 * b * t) / (6 * a) = r at *
  generalize (P - 6 * b * t) % (6 * a) = U at *
  have hd := mt_dm (u := V) (n := 6 * a) (by omega) q2
  have hm : 0 ≤ V * (6 * a) := Int.mul_nonneg q1.1 (by omega)
  have hm2 := Int.mul_le_mul_of_nonneg_right (show V ≤ 6 * c - 1 by omega) (show 0 ≤ 6 * a by omega)
  rw [Int.sub_mul, Int.one_mul, Int.mul_comm (6 * c)] at hm2
  have hsh := gr_sh hs hG (gr_0k hs) (gr_smul hs hG ((gr_L_a hL a).mpr (Int.dvd_refl _)) r) (gr_smul hs hG hS t)
  rw [Int.mul_zero, Int.add_zero] at hsh
  refine ⟨⟨by omega, by omega⟩, t * b + r * a, t * c, hsh, ?_, ?_⟩
  · rw [hd.2]
    rw [Int.mul_assoc 6 a, Int.mul_comm a r, Int.mul_assoc 6 b, Int.mul_comm b t] at e2
    omega
  · rw [hd.1]
    rw [Int.mul_assoc, Int.mul_comm c t] at e1
    omega
/-- in the cell each place is there once -/
theorem gr_cu (hD : gr_D h s n S) (hW : sg_W h) {m m' x y : Int} (hm : 0 ≤ m ∧ m < h 15 5 * h 15 6) (hm' : 0 ≤ m' ∧ m' < h 15 5 * h 15 6) (hS : S 0 x y) (e1 : m % h 15 5 = m' % h 15 5 + 6 * x) (e2 : m / h 15 5 = m' / h 15 5 + 6 * y) : m = m' := by
  obtain ⟨hG, hL, -⟩ := hD
  obtain ⟨ha, hb, hc, -, -, hin, -⟩ := id hL
  rw [hW.1, hW.2] at hm hm'
  rw [hW.1] at e1 e2
  have h1 := (hin x y).mp hS
  unfold mt_in at h1
  rw [Int.sub_zero, Int.sub_zero] at h1
  generalize h 10 4 = a at *
  generalize h 10 6 = c at *
  have b1 : 0 ≤ m / (6 * a) ∧ m / (6 * a) < 6 * c := ⟨Int.ediv_nonneg hm.1 (by omega), Int.ediv_lt_of_lt_mul (by omega) (by rw [Int.mul_comm]; exact hm.2)⟩
  have b2 : 0 ≤ m' / (6 * a) ∧ m' / (6 * a) < 6 * c := ⟨Int.ediv_nonneg hm'.1 (by omega), Int.ediv_lt_of_lt_mul (by omega) (by rw [Int.mul_comm]; exact hm'.2)⟩
  have d1 : 6 * c ∣ (m / (6 * a) - m' / (6 * a)) := by
    rw [e2, show m' / (6 * a) + 6 * y - m' / (6 * a) = 6 * y by omega]
    exact Int.mul_dvd_mul_left 6 h1.1
  have f1 := gr_dvd_eq b1 b2 d1
  have y0 : y = 0 := by omega
  have h2 := h1.2
  rw [y0, Int.zero_ediv, Int.zero_mul, Int.sub_zero] at h2
  have d2 : 6 * a ∣ (m % (6 * a) - m' % (6 * a)) := by
    rw [e1, show m' % (6 * a) + 6 * x - m' % (6 * a) = 6 * x by omega]
    exact Int.mul_dvd_mul_left 6 h2
  have f2 := gr_dvd_eq (mt_mod (by omega) m) (mt_mod (by omega) m') d2
  have g1 := Int.emod_add_mul_ediv m (6 * a)
  have g2 := Int.emod_add_mul_ediv m' (6 * a)
  rw [f1, f2, g2] at g1
  exact g1.symm
theorem gr_rd_sh (hs : s = 0 ∨ s = 1) (hD : gr_D h s n S) (hW : sg_W h) {P Q x y : Int} (hS : S 0 x y) : sg_rd h (P + 6 * x) (Q + 6 * y) = sg_rd h P Q := by
  have hG := hD.1
  obtain ⟨a1, x1, y1, a2, a3, a4⟩ := gr_rd hs hD hW (P + 6 * x) (Q + 6 * y)
  obtain ⟨b1, x2, y2, b2, b3, b4⟩ := gr_rd hs hD hW P Q
  have h1 := gr_ssub hs hG (gr_sh hs hG (gr_0k hs) hS b2) a2
  exact gr_cu hD hW a1 b1 h1 (by omega) (by omega)
theorem gr_rd_self (hs : s = 0 ∨ s = 1) (hD : gr_D h s n S) (hW : sg_W h) {m : Int} (hm : 0 ≤ m ∧ m < h 15 5 * h 15 6) : sg_rd h (m % h 15 5) (m / h 15 5) = m := by
  have hG := hD.1
  obtain ⟨b1, x2, y2, b2, b3, b4⟩ := gr_rd hs hD hW (m % h 15 5) (m / h 15 5)
  exact (gr_cu hD hW hm b1 b2 b3 b4).symm
theorem gr_Sk_mem {x y : Int} : ∀ m : Nat, y ∈ sg_Sk h s x m ↔ ∃ k : Nat, k < m ∧ y ∈ sg_K h s k (x % h 15 5) (x / h 15 5) := by
  intro m
  induction m with
  | zero => simp [sg_Sk]
  | succ m ih =>
    simp only [sg_Sk]
    rw [List.mem_append, ih]
    constructor
    · rintro (⟨k, k1, k2⟩ | h1)
      · exact ⟨k, by omega, k2⟩
      · exact ⟨m, by omega, h1⟩
    · rintro ⟨k, k1, k2⟩
      rcases (show k < m ∨ k = m by omega) with h1 | rfl
      · exact Or.inl ⟨k, h1, k2⟩
      · exact Or.inr k2
theorem gr_K_mem {k p q y : Int} : y ∈ sg_K h s k p q ↔ h 11 k.toNat ≠ -1 ∧ (y = sg_rd h (mt_x s k p q + 6 * h 11 k.toNat) (mt_y s k p q + 6 * h 12 k.toNat) ∨ ((mt_rd s ≤ k ∧ sy_F h s k p q) ∧ y = sg_rd h (p + mt_ax s (2 * (k - mt_rd s))) (q + mt_ax s (2 * (k - mt_rd s) + 1)))) := by
  unfold sg_K
  rcases Classical.em (h 11 k.toNat = -1) with h1 | h1
  · rw [if_pos h1]
    exact ⟨fun h2 => (by cases h2), fun h2 => absurd h1 h2.1⟩
  · rw [if_neg h1, List.mem_cons]
    rcases Classical.em (mt_rd s ≤ k ∧ sy_F h s k p q) with h2 | h2
    · rw [if_pos h2, List.mem_singleton]
      exact ⟨fun h3 => ⟨h1, h3.elim Or.inl (fun h4 => Or.inr ⟨h2, h4⟩)⟩, fun h3 => h3.2.elim Or.inl (fun h4 => Or.inr h4.2)⟩
    · rw [if_neg h2]
      exact ⟨fun h3 => ⟨h1, h3.elim Or.inl (fun h4 => (by cases h4))⟩, fun h3 => h3.2.elim Or.inl (fun h4 => absurd h4.1 h2)⟩
/-- the class's own move of k -/
theorem gr_own (hs : s = 0 ∨ s = 1) (hD : gr_D h s n S) {k : Int} (hk : 0 ≤ k ∧ k < 2 * mt_rd s) (h1 : h 11 k.toNat ≠ -1) : S k (h 11 k.toNat) (h 12 k.toNat) := by
  rw [← hD.2.2.1 k _ _ hk]
  refine ⟨h1, ?_⟩
  unfold mt_in
  rw [Int.sub_self, Int.sub_self, Int.zero_ediv, Int.zero_mul, Int.sub_zero]
  exact ⟨Int.dvd_zero _, Int.dvd_zero _⟩
/-- going on from a place: it hangs together -/
theorem gr_S_Cn (hs : s = 0 ∨ s = 1) (hD : gr_D h s n S) (hW : sg_W h) {x y : Int} (hy : y ∈ sg_S h s x) : (0 ≤ y ∧ y < h 15 5 * h 15 6) ∧ gr_Cn S s (x % h 15 5) (x / h 15 5) (y % h 15 5) (y / h 15 5) := by
  have hr := mt_rd_or hs
  obtain ⟨k, k1, k2⟩ := (gr_Sk_mem _).mp hy
  have hk : 0 ≤ (k : Int) ∧ (k : Int) < 2 * mt_rd s := by omega
  obtain ⟨h1, h2⟩ := gr_K_mem.mp k2
  generalize x % h 15 5 = p at *
  generalize x / h 15 5 = q at *
  rcases h2 with h2 | ⟨h2, h3⟩
  · obtain ⟨a1, u, v, a2, a3, a4⟩ := gr_rd hs hD hW (mt_x s k p q + 6 * h 11 ((k : Int)).toNat) (mt_y s k p q + 6 * h 12 ((k : Int)).toNat)
    rw [← h2] at a1 a3 a4
    refine ⟨a1, gr_Cn_tr (gr_Cn_g hk (gr_own hs hD hk h1)) ?_⟩
    rw [a3, a4]
    exact gr_Cn_sy (gr_Cn_sh hs a2)
  · obtain ⟨a1, u, v, a2, a3, a4⟩ := gr_rd hs hD hW (p + mt_ax s (2 * ((k : Int) - mt_rd s))) (q + mt_ax s (2 * ((k : Int) - mt_rd s) + 1))
    rw [← h3] at a1 a3 a4
    refine ⟨a1, gr_Cn_tr (gr_Cn_cx hs ⟨h2.1, hk.2⟩ ((gr_F_fx hD hk).mp h2.2)) ?_⟩
    rw [a3, a4]
    exact gr_Cn_sy (gr_Cn_sh hs a2)
/-- a set of places of the cell that is closed: it is kept by all -/
theorem gr_V_Iv (hs : s = 0 ∨ s = 1) (hn : 1 ≤ n) (hD : gr_D h s n S) (hW : sg_W h) {V : Int → Prop} (hV : ∀ x, (0 ≤ x ∧ x < h 15 5 * h 15 6) → V x → ∀ y ∈ sg_S h s x, V y) : gr_Iv S s (fun P Q => V (sg_rd h P Q)) := by
  have hr := mt_rd_or hs
  have hG := hD.1
  have fwd : ∀ j x y P Q : Int, (0 ≤ j ∧ j < 2 * mt_rd s) → S j x y → V (sg_rd h P Q) → V (sg_rd h (mt_x s j P Q + 6 * x) (mt_y s j P Q + 6 * y)) := by
    intro j x y P Q hj hS h1
    obtain ⟨a1, u, v, a2, a3, a4⟩ := gr_rd hs hD hW P Q
    generalize sg_rd h P Q = m at *
    have hne : h 11 j.toNat ≠ -1 := (hD.2.2.2.1 j hj).mpr ⟨x, y, hS⟩
    have ho := gr_own hs hD hj hne
    have h2 := hV m a1 h1 (sg_rd h (mt_x s j (m % h 15 5) (m / h 15 5) + 6 * h 11 j.toNat) (mt_y s j (m % h 15 5) (m / h 15 5) + 6 * h 12 j.toNat)) ((gr_Sk_mem _).mpr ⟨j.toNat, by omega, gr_K_mem.mpr (by rw [show ((j.toNat : Nat) : Int) = j by omega]; exact ⟨hne, Or.inl rfl⟩)⟩)
    -- the difference is a shift
    have hd := (gr_two hs hG hj ho).mp hS
    have hc := hG.2.1 _ _ _ _ _ _ (mt_lp_bd hs hj (gr_0k hs)) (mt_li_bd hs hj) (hG.2.1 j 0 x y u v hj (gr_0k hs) hS a2) (hG.2.2.1 j x y hj hS)
    rw [(gr_lp0 hs hj).2.1, (gr_lib hs hj).2.2, (gr_neg s j _ _).1, (gr_neg s j _ _).2, (gr_li hs hj x y).1.1, (gr_li hs hj x y).1.2, show -x + (mt_x s j u v + x) = mt_x s j u v by omega, show -y + (mt_y s j u v + y) = mt_y s j u v by omega] at hc
    have hsum := gr_sh hs hG (gr_0k hs) hd hc
    have e := gr_rd_sh hs hD hW (P := mt_x s j (m % h 15 5) (m / h 15 5) + 6 * h 11 j.toNat) (Q := mt_y s j (m % h 15 5) (m / h 15 5) + 6 * h 12 j.toNat) hsum
    rw [← e] at h2
    rw [a3, a4, (gr_lin s j _ _ _ _).1, (gr_lin s j _ _ _ _).2, (gr_sc s j 6 _ _).1, (gr_sc s j 6 _ _).2]
    rw [show mt_x s j (m % h 15 5) (m / h 15 5) + 6 * mt_x s j u v + 6 * x = mt_x s j (m % h 15 5) (m / h 15 5) + 6 * h 11 j.toNat + 6 * (mt_x s j u v + (x - h 11 j.toNat)) by omega, show mt_y s j (m % h 15 5) (m / h 15 5) + 6 * mt_y s j u v + 6 * y = mt_y s j (m % h 15 5) (m / h 15 5) + 6 * h 12 j.toNat + 6 * (mt_y s j u v + (y - h 12 j.toNat)) by omega]
    exact h2
  have fax : ∀ k P Q : Int, (mt_rd s ≤ k ∧ k < 2 * mt_rd s) → gr_fx S s k P Q → V (sg_rd h P Q) → V (sg_rd h (P + mt_ax s (2 * (k - mt_rd s))) (Q + mt_ax s (2 * (k - mt_rd s) + 1))) := by
    intro k P Q hk hf h1
    have hk0 : 0 ≤ k ∧ k < 2 * mt_rd s := by omega
    obtain ⟨a1, u, v, a2, a3, a4⟩ := gr_rd hs hD hW P Q
    generalize sg_rd h P Q = m at *
    have hf2 : gr_fx S s k (m % h 15 5) (m / h 15 5) := by
      rw [a3, a4] at hf
      exact (gr_fx_sh hs hG hk0 a2).mp hf
    obtain ⟨u1, v1, hu1, -, -⟩ := hf
    have hne : h 11 k.toNat ≠ -1 := (hD.2.2.2.1 k hk0).mpr ⟨u1, v1, hu1⟩
    have h2 := hV m a1 h1 (sg_rd h (m % h 15 5 + mt_ax s (2 * (k - mt_rd s))) (m / h 15 5 + mt_ax s (2 * (k - mt_rd s) + 1))) ((gr_Sk_mem _).mpr ⟨k.toNat, by omega, gr_K_mem.mpr (by rw [show ((k.toNat : Nat) : Int) = k by omega]; exact ⟨hne, Or.inr ⟨⟨hk.1, (gr_F_fx hD hk0).mpr hf2⟩, rfl⟩⟩)⟩)
    have e := gr_rd_sh hs hD hW (P := m % h 15 5 + mt_ax s (2 * (k - mt_rd s))) (Q := m / h 15 5 + mt_ax s (2 * (k - mt_rd s) + 1)) a2
    rw [← e] at h2
    rw [a3, a4, show m % h 15 5 + 6 * u + mt_ax s (2 * (k - mt_rd s)) = m % h 15 5 + mt_ax s (2 * (k - mt_rd s)) + 6 * u by omega, show m / h 15 5 + 6 * v + mt_ax s (2 * (k - mt_rd s) + 1) = m / h 15 5 + mt_ax s (2 * (k - mt_rd s) + 1) + 6 * v by omega]
    exact h2
  -- along the axis, both ways
  have fbx : ∀ k P Q : Int, (mt_rd s ≤ k ∧ k < 2 * mt_rd s) → gr_fx S s k P Q → (V (sg_rd h (P + mt_ax s (2 * (k - mt_rd s))) (Q + mt_ax s (2 * (k - mt_rd s) + 1))) ↔ V (sg_rd h P Q)) := by
    intro k P Q hk hf
    refine ⟨fun h1 => ?_, fax k P Q hk hf⟩
    have hfi : ∀ i : Nat, gr_fx S s k (P + (i : Int) * mt_ax s (2 * (k - mt_rd s))) (Q + (i : Int) * mt_ax s (2 * (k - mt_rd s) + 1)) := by
      intro i
      rcases (gr_ax hs hk).2 with ⟨e1, e2⟩ | ⟨e1, e2⟩
      · rw [e1, e2]; exact gr_fx_ax hs hk hf i
      · rw [e1, e2, Int.mul_neg, Int.mul_neg, ← Int.neg_mul, ← Int.neg_mul]; exact gr_fx_ax hs hk hf (-(i : Int))
    have hi : ∀ i : Nat, V (sg_rd h (P + ((i + 1 : Nat) : Int) * mt_ax s (2 * (k - mt_rd s))) (Q + ((i + 1 : Nat) : Int) * mt_ax s (2 * (k - mt_rd s) + 1))) := by
      intro i
      induction i with
      | zero =>
        rw [show ((0 + 1 : Nat) : Int) = 1 from rfl, Int.one_mul, Int.one_mul]
        exact h1
      | succ i ih =>
        have h2 := fax k _ _ hk (hfi (i + 1)) ih
        have e : ∀ z : Int, ((i + 1 : Nat) : Int) * z + z = ((i + 1 + 1 : Nat) : Int) * z := fun z => by rw [Int.natCast_add (i + 1) 1, Int.add_mul]; simp
        rw [Int.add_assoc, Int.add_assoc, e, e] at h2
        exact h2
    have h3 := hi (6 * n - 1).toNat
    rw [show (((6 * n - 1).toNat + 1 : Nat) : Int) = 6 * n by omega, Int.mul_assoc, Int.mul_assoc, gr_rd_sh hs hD hW (gr_per0 hG _ _)] at h3
    exact h3
  refine ⟨fun j x y P Q hj hS => ⟨fun h1 => ?_, fwd j x y P Q hj hS⟩, fun k P Q hk hf => ?_⟩
  · have h2 := fwd _ _ _ _ _ (mt_li_bd hs hj) (hG.2.2.1 j x y hj hS) h1
    rw [(gr_lin s (mt_li s j) _ _ _ _).1, (gr_lin s (mt_li s j) _ _ _ _).2, (gr_li hs hj _ _).2.1, (gr_li hs hj _ _).2.2, (gr_sc s (mt_li s j) 6 _ _).1, (gr_sc s (mt_li s j) 6 _ _).2, show P + 6 * mt_x s (mt_li s j) x y + 6 * -mt_x s (mt_li s j) x y = P by omega, show Q + 6 * mt_y s (mt_li s j) x y + 6 * -mt_y s (mt_li s j) x y = Q by omega] at h2
    exact h2
  · rcases (gr_ax hs hk).2 with ⟨e1, e2⟩ | ⟨e1, e2⟩
    · rw [← e1, ← e2]; exact fbx k P Q hk hf
    · have h1 := gr_fx_ax hs hk hf 1
      rw [Int.one_mul, Int.one_mul] at h1
      have h2 := fbx k _ _ hk h1
      rw [e1, e2, show P + (ri_ax s k 25).2.1 + -(ri_ax s k 25).2.1 = P by omega, show Q + (ri_ax s k 25).2.2 + -(ri_ax s k 25).2.2 = Q by omega] at h2
      exact h2.symm
end
