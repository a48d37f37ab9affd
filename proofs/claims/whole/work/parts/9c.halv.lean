/-! halves: both the same -/
theorem gr_as0 : ∀ s : Fin 2, ∀ i : Fin 12, ∀ j : Fin 12, ∀ k : Fin 12, (i.val : Int) < 2 * mt_rd (s.val : Int) → (j.val : Int) < 2 * mt_rd (s.val : Int) → (k.val : Int) < 2 * mt_rd (s.val : Int) → mt_lp (s.val : Int) (mt_lp (s.val : Int) (i.val : Int) (j.val : Int)) (k.val : Int) = mt_lp (s.val : Int) (i.val : Int) (mt_lp (s.val : Int) (j.val : Int) (k.val : Int)) := by decide +kernel
theorem gr_lpas {s i j k : Int} (hs : s = 0 ∨ s = 1) (hi : 0 ≤ i ∧ i < 2 * mt_rd s) (hj : 0 ≤ j ∧ j < 2 * mt_rd s) (hk : 0 ≤ k ∧ k < 2 * mt_rd s) : mt_lp s (mt_lp s i j) k = mt_lp s i (mt_lp s j k) := by
  have hr := mt_rd_or hs
  have h := gr_as0 ⟨s.toNat, by omega⟩ ⟨i.toNat, by omega⟩ ⟨j.toNat, by omega⟩ ⟨k.toNat, by omega⟩
  simp only at h
  rw [show ((s.toNat : Nat) : Int) = s by omega, Int.toNat_of_nonneg hi.1, Int.toNat_of_nonneg hj.1, Int.toNat_of_nonneg hk.1] at h
  exact h hi.2 hj.2 hk.2
section
variable {s n : Int}
theorem gr_pras (hs : s = 0 ∨ s = 1) (hn : 1 ≤ n ∧ n ≤ 12) {a b c : Int} (ha : 0 ≤ a ∧ a < 2 * mt_rd s * (n * n)) (hb : 0 ≤ b ∧ b < 2 * mt_rd s * (n * n)) (hc : 0 ≤ c ∧ c < 2 * mt_rd s * (n * n)) : mt_pr s n (mt_pr s n a b) c = mt_pr s n a (mt_pr s n b c) := by
  have ka := mt_kof hn.1 ha
  have kb := mt_kof hn.1 hb
  have kc := mt_kof hn.1 hc
  refine gr_mv_eq hn.1 ?_ ?_ ?_
  · rw [(gr_pr_k hn _ _).1, (gr_pr_k hn _ _).1, (gr_pr_k hn _ _).1, (gr_pr_k hn _ _).1, gr_lpas hs ka kb kc]
  · rw [(gr_pr_k hn _ _).2.1, (gr_pr_k hn a b).1, (gr_pr_k hn a b).2.1, (gr_pr_k hn a _).2.1, (gr_pr_k hn b c).2.1, (gr_pr_k hn b c).2.2, (gr_emod s (a / (n * n)) n (a / n % n) 0 (mt_x s (b / (n * n)) (c / n % n) (c % n) + b / n % n) (mt_y s (b / (n * n)) (c / n % n) (c % n) + b % n)).1, (gr_lin s (a / (n * n)) _ _ _ _).1, (gr_lp hs ka kb _ _).1, Int.add_emod_emod, Int.add_assoc]
  · rw [(gr_pr_k hn _ _).2.2, (gr_pr_k hn a b).1, (gr_pr_k hn a b).2.2, (gr_pr_k hn a _).2.2, (gr_pr_k hn b c).2.1, (gr_pr_k hn b c).2.2, (gr_emod s (a / (n * n)) n 0 (a % n) (mt_x s (b / (n * n)) (c / n % n) (c % n) + b / n % n) (mt_y s (b / (n * n)) (c / n % n) (c % n) + b % n)).2, (gr_lin s (a / (n * n)) _ _ _ _).2, (gr_lp hs ka kb _ _).2, Int.add_emod_emod, Int.add_assoc]
theorem gr_pr0 (hs : s = 0 ∨ s = 1) (hn : 1 ≤ n ∧ n ≤ 12) {a : Int} (ha : 0 ≤ a ∧ a < 2 * mt_rd s * (n * n)) : mt_pr s n 0 a = a ∧ mt_pr s n a 0 = a := by
  have ka := mt_kof hn.1 ha
  have u1 := mt_mod hn.1 (a / n)
  have u2 := mt_mod hn.1 a
  have zk : (0 : Int) / (n * n) = 0 := Int.zero_ediv _
  have zu : (0 : Int) / n % n = 0 := by rw [Int.zero_ediv, Int.zero_emod]
  have zv : (0 : Int) % n = 0 := Int.zero_emod _
  refine ⟨gr_mv_eq hn.1 ?_ ?_ ?_, gr_mv_eq hn.1 ?_ ?_ ?_⟩
  · rw [(gr_pr_k hn _ _).1, zk, (gr_lp0 hs ka).1]
  · rw [(gr_pr_k hn _ _).2.1, zk, zu, (mt_x0 s _ _).1, Int.add_zero, Int.emod_eq_of_lt u1.1 u1.2]
  · rw [(gr_pr_k hn _ _).2.2, zk, zv, (mt_x0 s _ _).2, Int.add_zero, Int.emod_eq_of_lt u2.1 u2.2]
  · rw [(gr_pr_k hn _ _).1, zk, (gr_lp0 hs ka).2.1]
  · rw [(gr_pr_k hn _ _).2.1, zu, zv, (gr_00 s _).1, Int.zero_add, Int.emod_eq_of_lt u1.1 u1.2]
  · rw [(gr_pr_k hn _ _).2.2, zu, zv, (gr_00 s _).2, Int.zero_add, Int.emod_eq_of_lt u2.1 u2.2]
theorem gr_prl (hs : s = 0 ∨ s = 1) (hn : 1 ≤ n ∧ n ≤ 12) {a b c : Int} (ha : 0 ≤ a ∧ a < 2 * mt_rd s * (n * n)) (hb : 0 ≤ b ∧ b < 2 * mt_rd s * (n * n)) (hc : 0 ≤ c ∧ c < 2 * mt_rd s * (n * n)) (h : mt_pr s n a b = mt_pr s n a c) : b = c := by
  rw [← (gr_pr_iv hs hn ha hb).1, h, (gr_pr_iv hs hn ha hc).1]
theorem gr_prr (hs : s = 0 ∨ s = 1) (hn : 1 ≤ n ∧ n ≤ 12) {a b c : Int} (ha : 0 ≤ a ∧ a < 2 * mt_rd s * (n * n)) (hb : 0 ≤ b ∧ b < 2 * mt_rd s * (n * n)) (hc : 0 ≤ c ∧ c < 2 * mt_rd s * (n * n)) (h : mt_pr s n b a = mt_pr s n c a) : b = c := by
  have hi := gr_iv_bd hs hn ha
  have hN := mt_2rn hs hn
  have e : mt_pr s n a (mt_iv s n a) = 0 := by
    have h1 := (gr_pr_iv hs hn ha (b := 0) (by omega)).2
    rw [(gr_pr0 hs hn hi).2] at h1
    exact h1
  have h1 := gr_pras hs hn hb ha hi
  have h2 := gr_pras hs hn hc ha hi
  rw [e, (gr_pr0 hs hn hb).2] at h1
  rw [e, (gr_pr0 hs hn hc).2] at h2
  rw [← h1, h, h2]
/-- a finite set that a move keeps: it comes from itself -/
theorem gr_onto {L : List Int} {B : Nat} {f : Int → Int} (hb : ∀ x ∈ L, 0 ≤ x ∧ x < (B : Int)) (hf : ∀ x ∈ L, f x ∈ L) (hi : ∀ x ∈ L, ∀ y ∈ L, f x = f y → x = y) {y : Int} (hy : y ∈ L) : ∃ x ∈ L, f x = y := by
  rcases Classical.em (∃ x ∈ L, f x = y) with h | h
  · exact h
  · exfalso
    have yb := hb y hy
    have h1 := pg_cn_inj (P := fun p : Nat => (p : Int) ∈ L) (Q := fun p : Nat => (p : Int) ∈ L ∧ p ≠ y.toNat) (N := B) (M := B) (f := fun p => (f p).toNat) (fun m hm hp => by
      have h2 := hf _ hp
      have h3 := hb _ h2
      refine ⟨by show (f m).toNat < B; omega, ?_, ?_⟩
      · show (((f m).toNat : Nat) : Int) ∈ L
        rw [show (((f m).toNat : Nat) : Int) = f m by omega]
        exact h2
      · show (f m).toNat ≠ y.toNat
        intro e
        exact h ⟨_, hp, by omega⟩) (fun a b ha hb' p q e => by
      have h2 := hb _ (hf _ p)
      have h3 := hb _ (hf _ q)
      have e1 : (f a).toNat = (f b).toNat := e
      have := hi _ p _ q (by omega)
      omega)
    have h2 := pg_cn_one (P := fun p : Nat => (p : Int) ∈ L ∧ p ≠ y.toNat) (P' := fun p : Nat => (p : Int) ∈ L) (z := y.toNat) (m := B) (by omega) (fun h3 => h3.2 rfl) (fun q hq => ⟨fun h3 => ⟨h3, hq⟩, fun h3 => h3.1⟩)
    rw [pg_b_t (show (((y.toNat : Nat) : Int) ∈ L) by rw [show ((y.toNat : Nat) : Int) = y by omega]; exact hy)] at h2
    omega
/-- a list that holds all products of G -/
def gr_gp (s n : Int) (G L : List Int) : Prop := L.Nodup ∧ (∀ x ∈ L, 0 ≤ x ∧ x < 2 * mt_rd s * (n * n)) ∧ (∀ g ∈ G, 0 ≤ g ∧ g < 2 * mt_rd s * (n * n)) ∧ (0 : Int) ∈ L ∧ (∀ x ∈ L, ∀ g ∈ G, mt_pr s n x g ∈ L) ∧ (∀ T : Int → Prop, T 0 → (∀ x ∈ L, T x → ∀ g ∈ G, T (mt_pr s n x g)) → ∀ x ∈ L, T x) ∧ (2 : Int) ^ G.length ≤ L.length
theorem gr_gp_cut (hs : s = 0 ∨ s = 1) (hn : 1 ≤ n ∧ n ≤ 12) {G L : List Int} (h : gr_gp s n G L) : ∀ x ∈ L, ∀ w : Int, (0 ≤ w ∧ w < 2 * mt_rd s * (n * n)) → mt_pr s n x w ∈ L → w ∈ L := by
  obtain ⟨h1, h2, h3, h4, h5, h6, h7⟩ := h
  have hN := mt_2rn hs hn
  have hGL : ∀ g ∈ G, g ∈ L := fun g hg => by
    have := h5 0 h4 g hg
    rwa [(gr_pr0 hs hn (h3 g hg)).1] at this
  have hleft : ∀ g ∈ G, ∀ y ∈ L, mt_pr s n g y ∈ L := by
    intro g hg
    refine h6 (fun y => mt_pr s n g y ∈ L) ?_ (fun y hy hp g' hg' => ?_)
    · show mt_pr s n g 0 ∈ L
      rw [(gr_pr0 hs hn (h3 g hg)).2]
      exact hGL g hg
    · show mt_pr s n g (mt_pr s n y g') ∈ L
      rw [← gr_pras hs hn (h3 g hg) (h2 y hy) (h3 g' hg')]
      exact h5 _ hp g' hg'
  refine h6 (fun x => ∀ w : Int, (0 ≤ w ∧ w < 2 * mt_rd s * (n * n)) → mt_pr s n x w ∈ L → w ∈ L) (fun w hw hp => ?_) (fun x hx hp g hg w hw hq => ?_)
  · rwa [(gr_pr0 hs hn hw).1] at hp
  · rw [gr_pras hs hn (h2 x hx) (h3 g hg) hw] at hq
    have hgw := hp _ (mt_pr_bd hs hn (h3 g hg) hw) hq
    obtain ⟨B, hB⟩ : ∃ B : Nat, 2 * mt_rd s * (n * n) = B := ⟨(2 * mt_rd s * (n * n)).toNat, by omega⟩
    obtain ⟨z, z1, z2⟩ := gr_onto (B := B) (f := fun y => mt_pr s n g y) (fun y hy => by rw [← hB]; exact h2 y hy) (hleft g hg) (fun a ha b hb e => gr_prl hs hn (h3 g hg) (h2 a ha) (h2 b hb) e) hgw
    have := gr_prl hs hn (h3 g hg) (h2 z z1) hw z2
    rw [← this]
    exact z1
theorem gr_gp_s (hs : s = 0 ∨ s = 1) (hn : 1 ≤ n ∧ n ≤ 12) {G L : List Int} (h : gr_gp s n G L) {q : Int} (hq : 0 ≤ q ∧ q < 2 * mt_rd s * (n * n)) (hqL : q ∉ L) : gr_gp s n (G ++ [q]) (bf (hv_S (mt_pr s n) (G ++ [q])) 5184 0 L) := by
  have hcut := gr_gp_cut hs hn h
  obtain ⟨h1, h2, h3, h4, h5, h6, h7⟩ := h
  have hN := mt_2rn hs hn
  obtain ⟨B, hB⟩ : ∃ B : Nat, 2 * mt_rd s * (n * n) = B := ⟨(2 * mt_rd s * (n * n)).toNat, by omega⟩
  have hG' : ∀ g ∈ G ++ [q], 0 ≤ g ∧ g < 2 * mt_rd s * (n * n) := by
    intro g hg
    rcases List.mem_append.mp hg with h8 | h8
    · exact h3 g h8
    · rw [List.mem_singleton.mp h8]; exact hq
  have hSm : ∀ x y : Int, y ∈ hv_S (mt_pr s n) (G ++ [q]) x ↔ ∃ g ∈ G ++ [q], mt_pr s n x g = y := by
    intro x y
    unfold hv_S
    rw [List.mem_map]
  have hSr : ∀ x, (0 ≤ x ∧ x < (B : Int)) → ∀ y ∈ hv_S (mt_pr s n) (G ++ [q]) x, 0 ≤ y ∧ y < (B : Int) := by
    intro x hx y hy
    obtain ⟨g, g1, g2⟩ := (hSm x y).mp hy
    rw [← g2, ← hB]
    rw [← hB] at hx
    exact mt_pr_bd hs hn hx (hG' g g1)
  have hbL : ∀ x ∈ L, 0 ≤ x ∧ x < (B : Int) := fun x hx => by rw [← hB]; exact h2 x hx
  generalize hL' : bf (hv_S (mt_pr s n) (G ++ [q])) 5184 0 L = L' at *
  have hnd : L'.Nodup := by rw [← hL']; exact bf_nd _ _ _ h1
  have hb' : ∀ x ∈ L', 0 ≤ x ∧ x < (B : Int) := by rw [← hL']; exact bf_ind (fun x hx => hSr x hx) _ _ _ hbL
  have hsup : ∀ x ∈ L, x ∈ L' := fun x hx => by rw [← hL']; exact bf_sup _ _ _ _ hx
  have hcl : ∀ x ∈ L', ∀ g ∈ G ++ [q], mt_pr s n x g ∈ L' := by
    intro x hx g hg
    obtain ⟨i, hi⟩ := List.getElem?_of_mem hx
    rw [← hL'] at hi ⊢
    exact bf_cl hSr 5184 0 L (by omega) h1 hbL i x (by omega) hi _ ((hSm x _).mpr ⟨g, hg, rfl⟩)
  refine ⟨hnd, fun x hx => by rw [hB]; exact hb' x hx, hG', hsup 0 h4, hcl, fun T hT0 hTs => ?_, ?_⟩
  · have h8 : ∀ x ∈ bf (hv_S (mt_pr s n) (G ++ [q])) 5184 0 L, x ∈ L' ∧ T x := by
      refine bf_ind (P := fun x => x ∈ L' ∧ T x) (fun x hx y hy => ?_) _ _ _ (fun x hx => ⟨hsup x hx, ?_⟩)
      · obtain ⟨g, g1, g2⟩ := (hSm x y).mp hy
        rw [← g2]
        exact ⟨hcl x hx.1 g g1, hTs x hx.1 hx.2 g g1⟩
      · exact h6 T hT0 (fun x hx ht g hg => hTs x (hsup x hx) ht g (List.mem_append.mpr (Or.inl hg))) x hx
    rw [hL'] at h8
    exact fun x hx => (h8 x hx).2
  · -- twice as many at least
    have l1 := list_len_le L h1 hbL
    have l2 := list_len_le L' hnd hb'
    have l3 := pg_cn_split (fun p : Nat => (p : Int) ∈ L') (fun p : Nat => (p : Int) ∈ L) B
    have l4 : pg_cn (fun p : Nat => (p : Int) ∈ L) B ≤ pg_cn (fun p : Nat => (p : Int) ∈ L' ∧ (p : Int) ∈ L) B := pg_cn_inj (f := fun p => p) (fun m hm hp => ⟨hm, hsup _ hp, hp⟩) (fun a b _ _ _ _ e => e)
    have l5 : pg_cn (fun p : Nat => (p : Int) ∈ L) B ≤ pg_cn (fun p : Nat => (p : Int) ∈ L' ∧ ¬ (p : Int) ∈ L) B := by
      refine pg_cn_inj (f := fun p => (mt_pr s n p q).toNat) (fun m hm hp => ?_) (fun a b ha hb p r e => ?_)
      · have b1 := mt_pr_bd hs hn (h2 _ hp) hq
        have e : (((mt_pr s n m q).toNat : Nat) : Int) = mt_pr s n m q := by omega
        refine ⟨by show (mt_pr s n m q).toNat < B; omega, ?_⟩
        show (((mt_pr s n m q).toNat : Nat) : Int) ∈ L' ∧ ¬ (((mt_pr s n m q).toNat : Nat) : Int) ∈ L
        rw [e]
        exact ⟨hcl _ (hsup _ hp) q (List.mem_append.mpr (Or.inr (List.mem_singleton.mpr rfl))), fun hin => hqL (hcut _ hp q hq hin)⟩
      · have b1 := mt_pr_bd hs hn (h2 _ p) hq
        have b2 := mt_pr_bd hs hn (h2 _ r) hq
        have e1 : (mt_pr s n a q).toNat = (mt_pr s n b q).toNat := e
        have := gr_prr hs hn hq (h2 _ p) (h2 _ r) (by omega)
        omega
    have e9 : (G ++ [q]).length = G.length + 1 := by simp
    rw [e9, Int.pow_succ]
    omega
/-- never more than ten are needed -/
theorem gr_ten (hs : s = 0 ∨ s = 1) (hn : 1 ≤ n ∧ n ≤ 12) {G L : List Int} (h : gr_gp s n G L) : G.length ≤ 10 := by
  obtain ⟨h1, h2, h3, h4, h5, h6, h7⟩ := h
  have hN := mt_2rn hs hn
  obtain ⟨B, hB⟩ : ∃ B : Nat, 2 * mt_rd s * (n * n) = B := ⟨(2 * mt_rd s * (n * n)).toNat, by omega⟩
  have l1 := list_len_le L h1 (fun x hx => by rw [← hB]; exact h2 x hx)
  have l2 := pg_cn_bd (fun p : Nat => (p : Int) ∈ L) B
  rcases (show G.length ≤ 10 ∨ 11 ≤ G.length by omega) with h8 | h8
  · exact h8
  · exfalso
    have h9 : (2 : Int) ^ 11 ≤ 2 ^ G.length := by
      have := Nat.pow_le_pow_right (show 0 < 2 by decide) h8
      have e : ((2 ^ 11 : Nat) : Int) ≤ ((2 ^ G.length : Nat) : Int) := Int.ofNat_le.mpr this
      rw [Int.natCast_pow, Int.natCast_pow] at e
      exact e
    have h10 : (2 : Int) ^ 11 = 2048 := by decide
    omega
theorem gr_run (hs : s = 0 ∨ s = 1) (hn : 1 ≤ n ∧ n ≤ 12) (P : Nat → Prop) : ∀ m : Nat, (m : Int) ≤ 2 * mt_rd s * (n * n) → hv_run (mt_pr s n) P m = rv_run (mt_pr s n) P m ∧ gr_gp s n (rv_run (mt_pr s n) P m).1 (rv_run (mt_pr s n) P m).2 := by
  intro m
  have hN := mt_2rn hs hn
  induction m with
  | zero =>
    intro _
    refine ⟨rfl, ?_⟩
    show gr_gp s n [] [0]
    refine ⟨by simp, fun x hx => ?_, fun g hg => (by cases hg), by simp, fun x hx g hg => (by cases hg), fun T h0 _ x hx => ?_, by show (2 : Int) ^ 0 ≤ 1; decide⟩
    · rw [List.mem_singleton.mp hx]; omega
    · rw [List.mem_singleton.mp hx]; exact h0
  | succ m ih =>
    intro hm
    obtain ⟨i1, i2⟩ := ih (by omega)
    rcases Classical.em (P m) with hP | hP
    · rw [hv_run_t hP, rv_run_t hP, i1]
      have hten := gr_ten hs hn i2
      have hmb : 0 ≤ (m : Int) ∧ (m : Int) < 2 * mt_rd s * (n * n) := by omega
      have hsq := mt_pr_bd hs hn hmb hmb
      unfold hv_take rv_take
      rcases Classical.em (mt_pr s n m m ∈ (rv_run (mt_pr s n) P m).2) with h1 | h1
      · rw [if_pos (Or.inl h1), if_pos h1]
        exact ⟨rfl, i2⟩
      · rw [if_neg (fun h2 => h2.elim h1 (fun h3 => by omega)), if_neg h1]
        exact ⟨rfl, gr_gp_s hs hn i2 hsq h1⟩
    · rw [hv_run_f hP, rv_run_f hP]
      exact ⟨i1, i2⟩
theorem rv_run_cg (pr : Int → Int → Int) {P Q : Nat → Prop} {N : Nat} (h : ∀ m, m < N → (P m ↔ Q m)) : rv_run pr P N = rv_run pr Q N := by
  induction N with
  | zero => rfl
  | succ N ih =>
    have ih := ih (fun m hm => h m (by omega))
    rcases Classical.em (P N) with h1 | h1
    · rw [rv_run_t h1, rv_run_t ((h N (by omega)).mp h1), ih]
    · rw [rv_run_f h1, rv_run_f (fun h2 => h1 ((h N (by omega)).mpr h2)), ih]
/-- halves -/
theorem gr_halves {h : pg_H} {col : Nat → Int} (hs : s = 0 ∨ s = 1) (hn : 1 ≤ n ∧ n ≤ 12) (hD : gr_D h s n (mt_sym col s n)) (hV : hv_D h s n) : h 18 5 = pg_cn (mt_sm col s n) (2 * mt_rd s * (n * n)).toNat / (rv_run (mt_pr s n) (mt_sm col s n) (2 * mt_rd s * (n * n)).toNat).2.length - 1 := by
  have hN := mt_2rn hs hn
  rw [hV.1, gr_many hs hn.1 hD]
  unfold hv_L
  rw [Int.mul_assoc (2 * mt_rd s) n n, (gr_run hs hn (sy_Pc h n) (2 * mt_rd s * (n * n)).toNat (by omega)).1, rv_run_cg (mt_pr s n) (P := sy_Pc h n) (Q := mt_sm col s n) (fun m hm => hD.2.2.1 _ _ _ (mt_kof hn.1 (by omega)))]
end
