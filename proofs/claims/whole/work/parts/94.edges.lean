/-! edges: both count the same -/
theorem pg_cn_rel {A B : Nat → Prop} {T : Nat → Nat → Prop} {N M : Nat} (h1 : ∀ a, a < N → A a → ∃ b, b < M ∧ B b ∧ T a b) (h2 : ∀ a a' b, a < N → a' < N → A a → A a' → T a b → T a' b → a = a') : pg_cn A N ≤ pg_cn B M := by
  have hg : ∀ a, ∃ b, a < N → A a → b < M ∧ B b ∧ T a b := fun a => by
    by_cases ha : a < N ∧ A a
    · obtain ⟨b, hb⟩ := h1 a ha.1 ha.2
      exact ⟨b, fun _ _ => hb⟩
    · exact ⟨0, fun x y => absurd ⟨x, y⟩ ha⟩
  refine pg_cn_inj (f := fun a => Classical.choose (hg a)) (fun a h3 h4 => ?_) (fun a b ha hb p q e => ?_)
  · have := Classical.choose_spec (hg a) h3 h4
    exact ⟨this.1, this.2.1⟩
  · have a1 := (Classical.choose_spec (hg a) ha p).2.2
    have a2 := (Classical.choose_spec (hg b) hb q).2.2
    have e1 : Classical.choose (hg a) = Classical.choose (hg b) := e
    rw [← e1] at a2
    exact h2 a b _ ha hb p q a1 a2
section
variable {h : pg_H} {s n : Int} {S : Int → Int → Int → Prop}
/-- where the class counts an edge -/
def gr_rC (h : pg_H) (s : Int) (m : Nat) : Prop := sg_m h s m ≠ 0 ∧ (m : Int) ∉ (sg_E h s m).2
theorem gr_E_t {m : Nat} (hc : gr_rC h s m) : sg_E h s (m + 1) = ((sg_E h s m).1 + 1, bf (sg_S h s) (5185 - ((sg_E h s m).2 ++ [(m : Int)]).length) (((sg_E h s m).2 ++ [(m : Int)]).length - 1) ((sg_E h s m).2 ++ [(m : Int)])) := if_pos hc
theorem gr_E_f {m : Nat} (hc : ¬ gr_rC h s m) : sg_E h s (m + 1) = sg_E h s m := if_neg hc
theorem gr_E_cn (m : Nat) : (sg_E h s m).1 = pg_cn (gr_rC h s) m := by
  induction m with
  | zero => rfl
  | succ m ih =>
    simp only [pg_cn]
    rcases Classical.em (gr_rC h s m) with hc | hc
    · rw [gr_E_t hc, pg_b_t hc, ← ih]
    · rw [gr_E_f hc, pg_b_f hc, ← ih, Int.add_zero]
theorem gr_E_in (hs : s = 0 ∨ s = 1) (hD : gr_D h s n S) (hW : sg_W h) (hB : h 15 5 * h 15 6 ≤ 5184) : ∀ m : Nat, (m : Int) ≤ h 15 5 * h 15 6 → (sg_E h s m).2.Nodup ∧ (∀ x ∈ (sg_E h s m).2, 0 ≤ x ∧ x < h 15 5 * h 15 6) ∧ (∀ x ∈ (sg_E h s m).2, ∀ y ∈ sg_S h s x, y ∈ (sg_E h s m).2) ∧ (∀ x ∈ (sg_E h s m).2, ∃ m' : Nat, m' < m ∧ gr_rC h s m' ∧ gr_Cn S s ((m' : Int) % h 15 5) ((m' : Int) / h 15 5) (x % h 15 5) (x / h 15 5)) ∧ ∀ m' : Nat, m' < m → sg_m h s m' ≠ 0 → (m' : Int) ∈ (sg_E h s m).2 := by
  intro m
  induction m with
  | zero =>
    intro _
    exact ⟨List.nodup_nil, fun x hx => (by cases hx), fun x hx => (by cases hx), fun x hx => (by cases hx), fun m' hm => (by omega)⟩
  | succ m ih =>
    intro hm
    obtain ⟨i1, i2, i3, i4, i5⟩ := ih (by omega)
    rcases Classical.em (gr_rC h s m) with hc | hc
    · rw [gr_E_t hc]
      simp only
      have hmV := hc.2
      generalize (sg_E h s m).2 = V at *
      have hd : (V ++ [(m : Int)]).Nodup := by
        rw [List.nodup_append]
        refine ⟨i1, by simp, fun a ha b hb => ?_⟩
        rw [List.mem_singleton.mp hb]
        exact fun e => hmV (by rw [← e]; exact ha)
      obtain ⟨B, hBe⟩ : ∃ B : Nat, h 15 5 * h 15 6 = B := ⟨(h 15 5 * h 15 6).toNat, by omega⟩
      have hb : ∀ x ∈ V ++ [(m : Int)], 0 ≤ x ∧ x < (B : Int) := by
        intro x hx
        rcases List.mem_append.mp hx with h1 | h1
        · rw [← hBe]; exact i2 x h1
        · rw [List.mem_singleton.mp h1]; omega
      have hlen := list_len_le _ hd hb
      have hcb := pg_cn_bd (fun p => (p : Int) ∈ V ++ [(m : Int)]) B
      have hl1 : (V ++ [(m : Int)]).length = V.length + 1 := by simp
      have hSr : ∀ x, (0 ≤ x ∧ x < (B : Int)) → ∀ y ∈ sg_S h s x, 0 ≤ y ∧ y < (B : Int) := fun x _ y hy => by rw [← hBe]; exact (gr_S_Cn hs hD hW hy).1
      refine ⟨bf_nd _ _ _ hd, ?_, ?_, ?_, ?_⟩
      · rw [hBe]
        exact bf_ind (fun x hx => hSr x hx) _ _ _ hb
      · intro x hx y hy
        obtain ⟨i, hi⟩ := List.getElem?_of_mem hx
        rcases (show (V ++ [(m : Int)]).length - 1 ≤ i ∨ i < (V ++ [(m : Int)]).length - 1 by omega) with h1 | h1
        · exact bf_cl hSr _ _ _ (by omega) hd hb i x h1 hi y hy
        · have h2 := bf_pre (S := sg_S h s) (5185 - (V ++ [(m : Int)]).length) ((V ++ [(m : Int)]).length - 1) (V ++ [(m : Int)]) i (by omega)
          rw [hi, List.getElem?_append_left (by omega)] at h2
          have h3 := List.mem_of_getElem? h2.symm
          exact bf_sup _ _ _ _ (List.mem_append.mpr (Or.inl (i3 x h3 y hy)))
      · refine bf_ind (P := fun x => ∃ m' : Nat, m' < m + 1 ∧ gr_rC h s m' ∧ gr_Cn S s ((m' : Int) % h 15 5) ((m' : Int) / h 15 5) (x % h 15 5) (x / h 15 5)) (fun x hx y hy => ?_) _ _ _ (fun x hx => ?_)
        · obtain ⟨m', a1, a2, a3⟩ := hx
          exact ⟨m', a1, a2, gr_Cn_tr a3 (gr_S_Cn hs hD hW hy).2⟩
        · rcases List.mem_append.mp hx with h1 | h1
          · obtain ⟨m', a1, a2, a3⟩ := i4 x h1
            exact ⟨m', by omega, a2, a3⟩
          · rw [List.mem_singleton.mp h1]
            exact ⟨m, by omega, hc, fun f hf => Iff.rfl⟩
      · intro m' hm' hne
        refine bf_sup _ _ _ _ (List.mem_append.mpr ?_)
        rcases (show m' < m ∨ m' = m by omega) with h1 | rfl
        · exact Or.inl (i5 m' h1 hne)
        · exact Or.inr (List.mem_singleton.mpr rfl)
    · rw [gr_E_f hc]
      refine ⟨i1, i2, i3, fun x hx => ?_, fun m' hm' hne => ?_⟩
      · obtain ⟨m', a1, a2, a3⟩ := i4 x hx
        exact ⟨m', by omega, a2, a3⟩
      · rcases (show m' < m ∨ m' = m by omega) with h1 | rfl
        · exact i5 m' h1 hne
        · rcases Classical.em ((m' : Int) ∈ (sg_E h s m').2) with h2 | h2
          · exact h2
          · exact absurd ⟨hne, h2⟩ hc
/-- the class counts no two that hang together -/
theorem gr_rC_u (hs : s = 0 ∨ s = 1) (hn : 1 ≤ n) (hD : gr_D h s n S) (hW : sg_W h) (hB : h 15 5 * h 15 6 ≤ 5184) {a b : Nat} (ha : (a : Int) < h 15 5 * h 15 6) (hb : (b : Int) < h 15 5 * h 15 6) (h1 : gr_rC h s a) (h2 : gr_rC h s b) (hC : gr_Cn S s ((a : Int) % h 15 5) ((a : Int) / h 15 5) ((b : Int) % h 15 5) ((b : Int) / h 15 5)) : a = b := by
  have key : ∀ x y : Nat, x < y → (y : Int) < h 15 5 * h 15 6 → gr_rC h s x → gr_rC h s y → ¬ gr_Cn S s ((x : Int) % h 15 5) ((x : Int) / h 15 5) ((y : Int) % h 15 5) ((y : Int) / h 15 5) := by
    intro x y hxy hy r1 r2 hc
    obtain ⟨-, i2, i3, -, i5⟩ := gr_E_in hs hD hW hB y (by omega)
    have hI := gr_V_Iv (V := fun z => z ∈ (sg_E h s y).2) hs hn hD hW (fun z _ hz w hw => i3 z hz w hw)
    have h3 := hc _ hI
    rw [gr_rd_self hs hD hW ⟨by omega, by omega⟩, gr_rd_self hs hD hW ⟨by omega, hy⟩] at h3
    exact r2.2 (h3.mp (i5 x hxy r1.1))
  rcases Nat.lt_trichotomy a b with h3 | h3 | h3
  · exact absurd hC (key a b h3 hb h1 h2)
  · exact h3
  · exact absurd (gr_Cn_sy hC) (key b a h3 ha h2 h1)
end
section
variable {col : Nat → Int} {s n : Int}
/-- a place of the plane, as a number on the torus -/
def gr_ix (n P Q : Int) : Nat := (Q % (6 * n) * (6 * n) + P % (6 * n)).toNat
theorem gr_ix_at (hn : 1 ≤ n) (P Q : Int) : gr_ix n P Q < (6 * n * (6 * n)).toNat ∧ (gr_ix n P Q : Int) % (6 * n) = P % (6 * n) ∧ (gr_ix n P Q : Int) / (6 * n) = Q % (6 * n) := by
  have q1 := mt_mod (n := 6 * n) (by omega) P
  have q2 := mt_mod (n := 6 * n) (by omega) Q
  have hd := mt_dm (u := Q % (6 * n)) (n := 6 * n) (by omega) q1
  have hm : 0 ≤ Q % (6 * n) * (6 * n) := Int.mul_nonneg q2.1 (by omega)
  have hm2 := Int.mul_le_mul_of_nonneg_right (show Q % (6 * n) ≤ 6 * n - 1 by omega) (show 0 ≤ 6 * n by omega)
  rw [Int.sub_mul, Int.one_mul] at hm2
  unfold gr_ix
  refine ⟨by omega, ?_, ?_⟩
  · rw [show (((Q % (6 * n) * (6 * n) + P % (6 * n)).toNat : Nat) : Int) = Q % (6 * n) * (6 * n) + P % (6 * n) by omega, hd.2]
  · rw [show (((Q % (6 * n) * (6 * n) + P % (6 * n)).toNat : Nat) : Int) = Q % (6 * n) * (6 * n) + P % (6 * n) by omega, hd.1]
theorem gr_ix_eq (hn : 1 ≤ n) {P Q : Int} {j : Int} (hj : 0 ≤ j ∧ j < 6 * n * (6 * n)) (h1 : j % (6 * n) = P % (6 * n)) (h2 : j / (6 * n) = Q % (6 * n)) : j.toNat = gr_ix n P Q := by
  have e := Int.emod_add_mul_ediv j (6 * n)
  rw [h1, h2] at e
  unfold gr_ix
  rw [← e, Int.mul_comm (6 * n), Int.add_comm]
theorem gr_ix_self (hn : 1 ≤ n) {i : Nat} (hi : i < (6 * n * (6 * n)).toNat) : gr_ix n ((i : Int) % (6 * n)) ((i : Int) / (6 * n)) = i := by
  have h6 := mt_6s hn (i := (i : Int)) ⟨by omega, by omega⟩
  have := gr_ix_eq hn (P := (i : Int) % (6 * n)) (Q := (i : Int) / (6 * n)) (j := (i : Int)) ⟨by omega, by omega⟩ (by rw [Int.emod_emod]) (by rw [Int.emod_eq_of_lt h6.2.1.1 h6.2.1.2])
  rw [← this]
  rfl
theorem gr_ix_g (hs : s = 0 ∨ s = 1) (hn : 1 ≤ n ∧ n ≤ 12) {j x y : Int} (hj : 0 ≤ j ∧ j < 2 * mt_rd s) (h : mt_sym col s n j x y) (P Q : Int) : mt_pR col s n (gr_ix n P Q) (gr_ix n (mt_x s j P Q + 6 * x) (mt_y s j P Q + 6 * y)) := by
  have a := gr_ix_at hn.1 P Q
  have b := gr_ix_at hn.1 (mt_x s j P Q + 6 * x) (mt_y s j P Q + 6 * y)
  have hcd := mt_cd_k (n := n) (k := j) (u := x) (v := y) hn
  have hcb := mt_cdb (s := s) (u := x) (v := y) hn hj
  have e : (((mt_cd n j x y).toNat : Nat) : Int) = mt_cd n j x y := by omega
  refine ⟨(mt_cd n j x y).toNat, by omega, ?_, ?_⟩
  · unfold mt_sm
    rw [e, hcd.1, hcd.2.1, hcd.2.2]
    exact (gr_sym_mod hn.1 (Int.emod_emod _ _) (Int.emod_emod _ _)).mpr h
  · rw [gr_pm_iff hn (by omega) _ _ ⟨by omega, by omega⟩, e, hcd.1, hcd.2.1, hcd.2.2, a.2.1, a.2.2, b.2.1, b.2.2, gr_6m, gr_6m]
    exact gr_emod s j (6 * n) (6 * x) (6 * y) P Q
theorem gr_fx_mod {S : Int → Int → Int → Prop} (hs : s = 0 ∨ s = 1) (hG : gr_G s n S) {k : Int} (hk : 0 ≤ k ∧ k < 2 * mt_rd s) (P Q : Int) : gr_fx S s k (P % (6 * n)) (Q % (6 * n)) ↔ gr_fx S s k P Q := by
  have e1 := Int.emod_add_mul_ediv P (6 * n)
  have e2 := Int.emod_add_mul_ediv Q (6 * n)
  have h3 := gr_fx_sh hs hG (k := k) (P := P % (6 * n)) (Q := Q % (6 * n)) hk (gr_per0 hG (P / (6 * n)) (Q / (6 * n)))
  rw [← Int.mul_assoc, ← Int.mul_assoc, e1, e2] at h3
  exact h3.symm
theorem gr_f_mod {S : Int → Int → Int → Prop} (hs : s = 0 ∨ s = 1) (hG : gr_G s n S) {f : Int → Int → Prop} (hf : gr_Iv S s f) (P Q : Int) : f (P % (6 * n)) (Q % (6 * n)) ↔ f P Q := by
  have e1 := Int.emod_add_mul_ediv P (6 * n)
  have e2 := Int.emod_add_mul_ediv Q (6 * n)
  have h3 := gr_Cn_sh hs (P := P % (6 * n)) (Q := Q % (6 * n)) (gr_per0 hG (P / (6 * n)) (Q / (6 * n))) f hf
  rw [← Int.mul_assoc, ← Int.mul_assoc, e1, e2] at h3
  exact h3
/-- what the roots tell: what hangs together -/
theorem gr_rt1 (hs : s = 0 ∨ s = 1) (hn : 1 ≤ n ∧ n ≤ 12) {rt : Nat → Nat} (hE : ∀ c d, mt_E col s n c d → rt c = rt d) {i j : Nat} (hi : i < (6 * n * (6 * n)).toNat) (hj : j < (6 * n * (6 * n)).toNat) (hC : gr_Cn (mt_sym col s n) s ((i : Int) % (6 * n)) ((i : Int) / (6 * n)) ((j : Int) % (6 * n)) ((j : Int) / (6 * n))) : rt ((ri_cl (mt_pR col s n) (6 * n * (6 * n)).toNat).1 i).toNat = rt ((ri_cl (mt_pR col s n) (6 * n * (6 * n)).toNat).1 j).toNat := by
  have hG := gr_sym_G col hs hn.1
  have hQ := gr_R_eq (col := col) hs hn
  have hr := mt_rd_or hs
  have hI : gr_Iv (mt_sym col s n) s (fun P Q => rt ((ri_cl (mt_pR col s n) (6 * n * (6 * n)).toNat).1 (gr_ix n P Q)).toNat = rt ((ri_cl (mt_pR col s n) (6 * n * (6 * n)).toNat).1 i).toNat) := by
    refine ⟨fun k x y P Q hk h => ?_, fun k P Q hk h => ?_⟩
    · have h1 := (gr_cl_eq hQ (gr_ix_at hn.1 P Q).1 (gr_ix_at hn.1 (mt_x s k P Q + 6 * x) (mt_y s k P Q + 6 * y)).1).mpr (gr_ix_g hs hn hk h P Q)
      simp only
      rw [h1]
    · have hk0 : 0 ≤ k ∧ k < 2 * mt_rd s := by omega
      have a := gr_ix_at hn.1 P Q
      have hx := (gr_fx_mod (n := n) hs hG hk0 P Q).mpr h
      rw [← a.2.1, ← a.2.2] at hx
      obtain ⟨m, m1, m2, m3, m4⟩ := gr_fx_pm hs hn hk0 (show (gr_ix n P Q : Int) < 6 * n * (6 * n) by omega) hx
      have hnb := ri_nb_bd (s := s) (k := (m : Int) / (n * n)) hn.1 (gr_ix n P Q)
      have e : (ri_nb s n ((m : Int) / (n * n)) (gr_ix n P Q)).toNat = gr_ix n (P + (ri_ax s k 25).2.1) (Q + (ri_ax s k 25).2.2) := by
        unfold gr_ix ri_nb
        have a2 : ((Q % (6 * n) * (6 * n) + P % (6 * n)).toNat : Int) % (6 * n) = P % (6 * n) := a.2.1
        have a3 : ((Q % (6 * n) * (6 * n) + P % (6 * n)).toNat : Int) / (6 * n) = Q % (6 * n) := a.2.2
        rw [a2, a3, m4, Int.emod_add_emod, Int.emod_add_emod, Int.mul_comm (6 * n)]
      have h2 := hE _ _ ⟨m, m1, m2, gr_ix n P Q, by omega, by omega, m3, rfl, rfl⟩
      rw [e] at h2
      simp only
      rw [h2]
  have h1 := hC _ hI
  rw [gr_ix_self hn.1 hi, gr_ix_self hn.1 hj] at h1
  exact (h1.mp rfl).symm
theorem gr_rt2 (hs : s = 0 ∨ s = 1) (hn : 1 ≤ n ∧ n ≤ 12) {rt : Nat → Nat} (hF : ∀ f : Nat → Nat, (∀ c d, mt_E col s n c d → f c = f d) → ∀ c : Nat, (c : Int) < pg_cn (mt_rp col s n) (6 * n * (6 * n)).toNat → f (rt c) = f c) {i j : Nat} (hi : i < (6 * n * (6 * n)).toNat) (hj : j < (6 * n * (6 * n)).toNat) (hij : rt ((ri_cl (mt_pR col s n) (6 * n * (6 * n)).toNat).1 i).toNat = rt ((ri_cl (mt_pR col s n) (6 * n * (6 * n)).toNat).1 j).toNat) : gr_Cn (mt_sym col s n) s ((i : Int) % (6 * n)) ((i : Int) / (6 * n)) ((j : Int) % (6 * n)) ((j : Int) / (6 * n)) := by
  have hG := gr_sym_G col hs hn.1
  have hQ := gr_R_eq (col := col) hs hn
  have hr := mt_rd_or hs
  intro f hf
  have hnn : ∀ x, x < (6 * n * (6 * n)).toNat → 0 ≤ (ri_cl (mt_pR col s n) (6 * n * (6 * n)).toNat).1 x ∧ (ri_cl (mt_pR col s n) (6 * n * (6 * n)).toNat).1 x < pg_cn (mt_rp col s n) (6 * n * (6 * n)).toNat := fun x hx => by
    refine ⟨ri_cl_nn (fun x hx => mt_pR_rf hs hn hx) (Nat.le_refl _) hx, ?_⟩
    have h1 := ri_cl_l2 (mt_pR col s n) (6 * n * (6 * n)).toNat x
    rw [ri_cl_cn] at h1
    exact h1
  generalize hcl : (ri_cl (mt_pR col s n) (6 * n * (6 * n)).toNat).1 = cl at *
  have hclq : ∀ x y, x < (6 * n * (6 * n)).toNat → y < (6 * n * (6 * n)).toNat → (cl x = cl y ↔ mt_pR col s n x y) := fun x y hx hy => by rw [← hcl]; exact gr_cl_eq hQ hx hy
  -- a function of the classes
  have hg : ∀ c : Nat, ∃ z : Nat, ∀ x, x < (6 * n * (6 * n)).toNat → (cl x).toNat = c → (z = 1 ↔ f ((x : Int) % (6 * n)) ((x : Int) / (6 * n))) := by
    intro c
    rcases Classical.em (∃ x, x < (6 * n * (6 * n)).toNat ∧ (cl x).toNat = c) with ⟨x, x1, x2⟩ | h0
    · have hsame : ∀ y, y < (6 * n * (6 * n)).toNat → (cl y).toNat = c → (f ((x : Int) % (6 * n)) ((x : Int) / (6 * n)) ↔ f ((y : Int) % (6 * n)) ((y : Int) / (6 * n))) := by
        intro y y1 y2
        have a1 := hnn x x1
        have a2 := hnn y y1
        obtain ⟨m, m1, m2, m3⟩ := (hclq x y x1 y1).mp (by omega)
        have hk := mt_kof hn.1 (show 0 ≤ (m : Int) ∧ (m : Int) < 2 * mt_rd s * (n * n) by omega)
        have h1 := (gr_pm_iff hn (show (x : Int) < 6 * n * (6 * n) by omega) (m : Int) (y : Int) ⟨by omega, by omega⟩).mp m3
        rw [← h1.1, ← h1.2, gr_f_mod hs hG hf]
        exact gr_Cn_g hk m2 f hf
      rcases Classical.em (f ((x : Int) % (6 * n)) ((x : Int) / (6 * n))) with h1 | h1
      · exact ⟨1, fun y y1 y2 => ⟨fun _ => (hsame y y1 y2).mp h1, fun _ => rfl⟩⟩
      · exact ⟨0, fun y y1 y2 => ⟨fun h2 => by omega, fun h2 => absurd ((hsame y y1 y2).mpr h2) h1⟩⟩
    · exact ⟨0, fun x x1 x2 => absurd ⟨x, x1, x2⟩ h0⟩
  have hsp := fun c => Classical.choose_spec (hg c)
  generalize (fun c => Classical.choose (hg c)) = F at *
  have hFE : ∀ c d, mt_E col s n c d → (Classical.choose (hg c) = 1 ↔ Classical.choose (hg d) = 1) := by
    rintro c d ⟨m, m1, m2, x, x1, x2, x3, rfl, rfl⟩
    rw [hcl]
    have hnb := ri_nb_bd (s := s) (k := (m : Int) / (n * n)) hn.1 x
    have hk := mt_kof hn.1 (show 0 ≤ (m : Int) ∧ (m : Int) < 2 * mt_rd s * (n * n) by omega)
    rw [hsp _ x (by omega) rfl, hsp _ (ri_nb s n ((m : Int) / (n * n)) x).toNat (by omega) rfl]
    have hfx := gr_pm_fx hs hn x1 m2 x3
    have h1 := gr_Cn_ax ⟨x2, hk.2⟩ hfx f hf
    rw [h1, ← gr_f_mod hs hG hf]
    have hq1 := mt_mod (n := 6 * n) (by omega) ((x : Int) % (6 * n) + (ri_ax s ((m : Int) / (n * n)) 25).2.1)
    have hd := mt_dm (u := ((x : Int) / (6 * n) + (ri_ax s ((m : Int) / (n * n)) 25).2.2) % (6 * n)) (n := 6 * n) (by omega) hq1
    rw [show (((ri_nb s n ((m : Int) / (n * n)) x).toNat : Nat) : Int) = ri_nb s n ((m : Int) / (n * n)) x by omega]
    unfold ri_nb
    rw [Int.mul_comm (6 * n), hd.1, hd.2]
  have hall := hF (fun c => if Classical.choose (hg c) = 1 then 1 else 0) (fun c d h1 => by
    have := hFE c d h1
    show (if Classical.choose (hg c) = 1 then 1 else 0) = (if Classical.choose (hg d) = 1 then 1 else 0)
    by_cases hz : Classical.choose (hg c) = 1
    · rw [if_pos hz, if_pos (this.mp hz)]
    · rw [if_neg hz, if_neg (fun h2 => hz (this.mpr h2))])
  have b1 := hnn i hi
  have b2 := hnn j hj
  have c1 := hall (cl i).toNat (by omega)
  have c2 := hall (cl j).toNat (by omega)
  rw [hij] at c1
  rw [c1] at c2
  rw [← hsp _ i hi rfl, ← hsp _ j hj rfl]
  by_cases h1 : Classical.choose (hg (cl i).toNat) = 1
  · rw [if_pos h1] at c2
    by_cases h2 : Classical.choose (hg (cl j).toNat) = 1
    · exact ⟨fun _ => h2, fun _ => h1⟩
    · rw [if_neg h2] at c2; omega
  · rw [if_neg h1] at c2
    by_cases h2 : Classical.choose (hg (cl j).toNat) = 1
    · rw [if_pos h2] at c2; omega
    · exact ⟨fun h3 => absurd h3 h1, fun h3 => absurd h3 h2⟩
/-- edges -/
theorem gr_edges {h : pg_H} (hs : s = 0 ∨ s = 1) (hn : 1 ≤ n ∧ n ≤ 12) (hD : gr_D h s n (mt_sym col s n)) (hS : sg_D h s) {z : Int} (hz : ri_ec col s n z) : h 15 7 = z := by
  have hG := hD.1
  have hQ := gr_R_eq (col := col) hs hn
  obtain ⟨hW, ⟨h7, -⟩, -⟩ := hS
  obtain ⟨rt, r1, r2, r3, r4⟩ := hz
  have ha := hD.2.1.1
  have hc := hD.2.1.2.2.1
  have hB0 : 1 ≤ 6 * h 10 4 * (6 * h 10 6) ∧ 6 * h 10 4 * (6 * h 10 6) ≤ 5184 := by
    have h1 := Int.mul_le_mul (show 6 * h 10 4 ≤ 72 by omega) (show 6 * h 10 6 ≤ 72 by omega) (by omega) (by omega)
    have h2 := Int.mul_pos (show 0 < 6 * h 10 4 by omega) (show 0 < 6 * h 10 6 by omega)
    omega
  have hB : h 15 5 * h 15 6 ≤ 5184 := by rw [hW.1, hW.2]; exact hB0.2
  have hBe : h 15 5 * h 15 6 = 6 * h 10 4 * (6 * h 10 6) := by rw [hW.1, hW.2]
  rw [h7, gr_E_cn, r4]
  -- what is at a first of a class
  have hcl : ∀ i, i < (6 * n * (6 * n)).toNat → mt_rp col s n i → (ri_cl (mt_pR col s n) (6 * n * (6 * n)).toNat).1 i = pg_cn (mt_rp col s n) i := by
    intro i hi h1
    have h2 := (gr_cl_rp hQ hi).mp h1
    rw [gr_cl_no hQ _ i (Nat.le_refl _) hi i hi (hQ.1 i hi) h2]
    exact (pg_cn_iff (fun j hj => gr_cl_rp hQ (by omega))).symm
  have hmi : ∀ i, i < (6 * n * (6 * n)).toNat → (0 < mt_mi col s n i ↔ 0 < gr_m (mt_sym col s n) s ((i : Int) % (6 * n)) ((i : Int) / (6 * n))) := fun i hi => by
    rw [gr_mi hs hn (by omega)]
    exact Iff.rfl
  have hsm : ∀ m : Nat, (sg_m h s m ≠ 0 ↔ 0 < gr_m (mt_sym col s n) s ((m : Int) % h 15 5) ((m : Int) / h 15 5)) := fun m => by
    rw [(gr_sgt hD hs hW m).2, hW.1]
    have h1 : 0 ≤ gr_m (mt_sym col s n) s ((m : Int) % (6 * h 10 4)) ((m : Int) / (6 * h 10 4)) := (pg_cn_bd _ _).1
    omega
  have hIm := gr_Iv_m hs hG
  refine Int.le_antisymm ?_ ?_
  · refine pg_cn_rel (T := fun m i => gr_Cn (mt_sym col s n) s ((m : Int) % h 15 5) ((m : Int) / h 15 5) ((i : Int) % (6 * n)) ((i : Int) / (6 * n))) (fun m hm hc => ?_) (fun m m' i hm hm' hc hc' t1 t2 => gr_rC_u hs hn.1 hD hW hB (by omega) (by omega) hc hc' (gr_Cn_tr t1 (gr_Cn_sy t2)))
    obtain ⟨i0, j1, j2, j3⟩ := gr_torus hn ((m : Int) % h 15 5) ((m : Int) / h 15 5)
    have hC0 : gr_Cn (mt_sym col s n) s ((m : Int) % h 15 5) ((m : Int) / h 15 5) ((i0 : Int) % (6 * n)) ((i0 : Int) / (6 * n)) := by
      intro f hf
      rw [j2, j3]
      exact (gr_f_mod hs hG hf _ _).symm
    have hcb : 0 ≤ (ri_cl (mt_pR col s n) (6 * n * (6 * n)).toNat).1 i0 ∧ (ri_cl (mt_pR col s n) (6 * n * (6 * n)).toNat).1 i0 < pg_cn (mt_rp col s n) (6 * n * (6 * n)).toNat := by
      refine ⟨ri_cl_nn (fun x hx => mt_pR_rf hs hn hx) (Nat.le_refl _) j1, ?_⟩
      have h1 := ri_cl_l2 (mt_pR col s n) (6 * n * (6 * n)).toNat i0
      rw [ri_cl_cn] at h1
      exact h1
    have hroot := r1 ((ri_cl (mt_pR col s n) (6 * n * (6 * n)).toNat).1 i0).toNat (by omega)
    obtain ⟨i, i1, i2, i3⟩ := pg_cn_ex (P := mt_rp col s n) (m := (6 * n * (6 * n)).toNat) (i := (rt ((ri_cl (mt_pR col s n) (6 * n * (6 * n)).toNat).1 i0).toNat : Int)) (by omega) hroot.1
    have hci := hcl i i1 i2
    have hij : rt ((ri_cl (mt_pR col s n) (6 * n * (6 * n)).toNat).1 i).toNat = rt ((ri_cl (mt_pR col s n) (6 * n * (6 * n)).toNat).1 i0).toNat := by
      rw [hci, i3, Int.toNat_natCast]
      exact hroot.2
    have hC1 := gr_rt2 hs hn r3 i1 j1 hij
    refine ⟨i, i1, ⟨i2, ?_, ?_⟩, gr_Cn_tr hC0 (gr_Cn_sy hC1)⟩
    · rw [i3, Int.toNat_natCast]
      exact hroot.2
    · rw [hmi i i1]
      exact ((gr_Cn_tr hC0 (gr_Cn_sy hC1)) _ hIm).mp ((hsm m).mp hc.1)
  · refine pg_cn_rel (T := fun i m => gr_Cn (mt_sym col s n) s ((m : Int) % h 15 5) ((m : Int) / h 15 5) ((i : Int) % (6 * n)) ((i : Int) / (6 * n))) (fun i hi hc => ?_) (fun i i' m hi hi' hc hc' t1 t2 => ?_)
    · obtain ⟨q1, q2, q3⟩ := hc
      obtain ⟨m0, m1, x, y, m2, m3, m4⟩ := gr_cell hs hD ((i : Int) % (6 * n)) ((i : Int) / (6 * n))
      have hC0 : gr_Cn (mt_sym col s n) s ((m0 : Int) % h 15 5) ((m0 : Int) / h 15 5) ((i : Int) % (6 * n)) ((i : Int) / (6 * n)) := by
        rw [hW.1, m3, m4]
        exact gr_Cn_sh hs m2
      have hne : sg_m h s m0 ≠ 0 := (hsm m0).mpr ((hC0 _ hIm).mpr ((hmi i hi).mp q3))
      obtain ⟨-, -, -, e4, e5⟩ := gr_E_in hs hD hW hB (h 15 5 * h 15 6).toNat (by omega)
      obtain ⟨m, n1, n2, n3⟩ := e4 _ (e5 m0 (by omega) hne)
      exact ⟨m, by omega, n2, gr_Cn_tr n3 hC0⟩
    · have h1 := gr_rt1 hs hn r2 hi hi' (gr_Cn_tr (gr_Cn_sy t1) t2)
      rw [hcl i hi hc.1, hcl i' hi' hc'.1, hc.2.1, hc'.2.1] at h1
      have b1 := pg_cn_bd (mt_rp col s n) i
      have b2 := pg_cn_bd (mt_rp col s n) i'
      rcases Nat.lt_trichotomy i i' with h2 | h2 | h2
      · have := pg_cn_lt2 h2 hc.1; omega
      · exact h2
      · have := pg_cn_lt2 h2 hc'.1; omega
end
