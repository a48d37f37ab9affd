/-! kinds: places of turns; one direction of mirrors alone -/
theorem gr_axes {s k : Int} (hs : s = 0 ∨ s = 1) (hk : mt_rd s ≤ k ∧ k < 2 * mt_rd s) : ∃ Bx By : Int, (Bx ≠ 0 ∨ By ≠ 0) ∧ (mt_x s k Bx By = -Bx ∧ mt_y s k Bx By = -By) ∧ (∀ x y : Int, mt_x s k x y = x → mt_y s k x y = y → ∃ t : Int, x = t * (ri_ax s k 25).2.1 ∧ y = t * (ri_ax s k 25).2.2) ∧ ∀ x y : Int, mt_x s k x y = -x → mt_y s k x y = -y → ∃ t : Int, x = t * Bx ∧ y = t * By := by
  have hr := mt_rd_or hs
  have hc : (s = 0 ∧ k = 4) ∨ (s = 0 ∧ k = 5) ∨ (s = 0 ∧ k = 6) ∨ (s = 0 ∧ k = 7) ∨ (s = 1 ∧ k = 6) ∨ (s = 1 ∧ k = 7) ∨ (s = 1 ∧ k = 8) ∨ (s = 1 ∧ k = 9) ∨ (s = 1 ∧ k = 10) ∨ (s = 1 ∧ k = 11) := by omega
  rcases hc with ⟨rfl, rfl⟩ | ⟨rfl, rfl⟩ | ⟨rfl, rfl⟩ | ⟨rfl, rfl⟩ | ⟨rfl, rfl⟩ | ⟨rfl, rfl⟩ | ⟨rfl, rfl⟩ | ⟨rfl, rfl⟩ | ⟨rfl, rfl⟩ | ⟨rfl, rfl⟩
  · have e : ri_ax 0 4 25 = (1, (-1), 0) := by decide +kernel
    have m : ∀ x y : Int, mt_x 0 4 x y = 1 * x + 0 * y ∧ mt_y 0 4 x y = 0 * x + (-1) * y := fun x y => ⟨rfl, rfl⟩
    rw [e]
    refine ⟨0, (-1), by decide, ⟨by rw [(m _ _).1]; decide, by rw [(m _ _).2]; decide⟩, fun x y h1 h2 => ⟨(-1) * x, ?_, ?_⟩, fun x y h1 h2 => ⟨(-1) * y, ?_, ?_⟩⟩
    all_goals (rw [(m x y).1] at h1; rw [(m x y).2] at h2)
    · show x = _ * (-1); omega
    · show y = _ * 0; omega
    · omega
    · omega
  · have e : ri_ax 0 5 25 = (2, (-1), (-1)) := by decide +kernel
    have m : ∀ x y : Int, mt_x 0 5 x y = 0 * x + 1 * y ∧ mt_y 0 5 x y = 1 * x + 0 * y := fun x y => ⟨rfl, rfl⟩
    rw [e]
    refine ⟨(-1), 1, by decide, ⟨by rw [(m _ _).1]; decide, by rw [(m _ _).2]; decide⟩, fun x y h1 h2 => ⟨(-1) * x, ?_, ?_⟩, fun x y h1 h2 => ⟨(-1) * x, ?_, ?_⟩⟩
    all_goals (rw [(m x y).1] at h1; rw [(m x y).2] at h2)
    · show x = _ * (-1); omega
    · show y = _ * (-1); omega
    · omega
    · omega
  · have e : ri_ax 0 6 25 = (1, 0, (-1)) := by decide +kernel
    have m : ∀ x y : Int, mt_x 0 6 x y = (-1) * x + 0 * y ∧ mt_y 0 6 x y = 0 * x + 1 * y := fun x y => ⟨rfl, rfl⟩
    rw [e]
    refine ⟨(-1), 0, by decide, ⟨by rw [(m _ _).1]; decide, by rw [(m _ _).2]; decide⟩, fun x y h1 h2 => ⟨(-1) * y, ?_, ?_⟩, fun x y h1 h2 => ⟨(-1) * x, ?_, ?_⟩⟩
    all_goals (rw [(m x y).1] at h1; rw [(m x y).2] at h2)
    · show x = _ * 0; omega
    · show y = _ * (-1); omega
    · omega
    · omega
  · have e : ri_ax 0 7 25 = (2, (-1), 1) := by decide +kernel
    have m : ∀ x y : Int, mt_x 0 7 x y = 0 * x + (-1) * y ∧ mt_y 0 7 x y = (-1) * x + 0 * y := fun x y => ⟨rfl, rfl⟩
    rw [e]
    refine ⟨(-1), (-1), by decide, ⟨by rw [(m _ _).1]; decide, by rw [(m _ _).2]; decide⟩, fun x y h1 h2 => ⟨(-1) * x, ?_, ?_⟩, fun x y h1 h2 => ⟨(-1) * x, ?_, ?_⟩⟩
    all_goals (rw [(m x y).1] at h1; rw [(m x y).2] at h2)
    · show x = _ * (-1); omega
    · show y = _ * 1; omega
    · omega
    · omega
  · have e : ri_ax 1 6 25 = (2, (-1), (-1)) := by decide +kernel
    have m : ∀ x y : Int, mt_x 1 6 x y = 0 * x + 1 * y ∧ mt_y 1 6 x y = 1 * x + 0 * y := fun x y => ⟨rfl, rfl⟩
    rw [e]
    refine ⟨(-1), 1, by decide, ⟨by rw [(m _ _).1]; decide, by rw [(m _ _).2]; decide⟩, fun x y h1 h2 => ⟨(-1) * x, ?_, ?_⟩, fun x y h1 h2 => ⟨(-1) * x, ?_, ?_⟩⟩
    all_goals (rw [(m x y).1] at h1; rw [(m x y).2] at h2)
    · show x = _ * (-1); omega
    · show y = _ * (-1); omega
    · omega
    · omega
  · have e : ri_ax 1 7 25 = (1, 0, (-1)) := by decide +kernel
    have m : ∀ x y : Int, mt_x 1 7 x y = (-1) * x + 0 * y ∧ mt_y 1 7 x y = 1 * x + 1 * y := fun x y => ⟨rfl, rfl⟩
    rw [e]
    refine ⟨(-2), 1, by decide, ⟨by rw [(m _ _).1]; decide, by rw [(m _ _).2]; decide⟩, fun x y h1 h2 => ⟨(-1) * y, ?_, ?_⟩, fun x y h1 h2 => ⟨1 * y, ?_, ?_⟩⟩
    all_goals (rw [(m x y).1] at h1; rw [(m x y).2] at h2)
    · show x = _ * 0; omega
    · show y = _ * (-1); omega
    · omega
    · omega
  · have e : ri_ax 1 8 25 = (3, (-1), 2) := by decide +kernel
    have m : ∀ x y : Int, mt_x 1 8 x y = (-1) * x + (-1) * y ∧ mt_y 1 8 x y = 0 * x + 1 * y := fun x y => ⟨rfl, rfl⟩
    rw [e]
    refine ⟨(-1), 0, by decide, ⟨by rw [(m _ _).1]; decide, by rw [(m _ _).2]; decide⟩, fun x y h1 h2 => ⟨(-1) * x, ?_, ?_⟩, fun x y h1 h2 => ⟨(-1) * x, ?_, ?_⟩⟩
    all_goals (rw [(m x y).1] at h1; rw [(m x y).2] at h2)
    · show x = _ * (-1); omega
    · show y = _ * 2; omega
    · omega
    · omega
  · have e : ri_ax 1 9 25 = (2, (-1), 1) := by decide +kernel
    have m : ∀ x y : Int, mt_x 1 9 x y = 0 * x + (-1) * y ∧ mt_y 1 9 x y = (-1) * x + 0 * y := fun x y => ⟨rfl, rfl⟩
    rw [e]
    refine ⟨(-1), (-1), by decide, ⟨by rw [(m _ _).1]; decide, by rw [(m _ _).2]; decide⟩, fun x y h1 h2 => ⟨(-1) * x, ?_, ?_⟩, fun x y h1 h2 => ⟨(-1) * x, ?_, ?_⟩⟩
    all_goals (rw [(m x y).1] at h1; rw [(m x y).2] at h2)
    · show x = _ * (-1); omega
    · show y = _ * 1; omega
    · omega
    · omega
  · have e : ri_ax 1 10 25 = (3, (-2), 1) := by decide +kernel
    have m : ∀ x y : Int, mt_x 1 10 x y = 1 * x + 0 * y ∧ mt_y 1 10 x y = (-1) * x + (-1) * y := fun x y => ⟨rfl, rfl⟩
    rw [e]
    refine ⟨0, (-1), by decide, ⟨by rw [(m _ _).1]; decide, by rw [(m _ _).2]; decide⟩, fun x y h1 h2 => ⟨1 * y, ?_, ?_⟩, fun x y h1 h2 => ⟨(-1) * y, ?_, ?_⟩⟩
    all_goals (rw [(m x y).1] at h1; rw [(m x y).2] at h2)
    · show x = _ * (-2); omega
    · show y = _ * 1; omega
    · omega
    · omega
  · have e : ri_ax 1 11 25 = (1, (-1), 0) := by decide +kernel
    have m : ∀ x y : Int, mt_x 1 11 x y = 1 * x + 1 * y ∧ mt_y 1 11 x y = 0 * x + (-1) * y := fun x y => ⟨rfl, rfl⟩
    rw [e]
    refine ⟨(-1), 2, by decide, ⟨by rw [(m _ _).1]; decide, by rw [(m _ _).2]; decide⟩, fun x y h1 h2 => ⟨(-1) * x, ?_, ?_⟩, fun x y h1 h2 => ⟨(-1) * x, ?_, ?_⟩⟩
    all_goals (rw [(m x y).1] at h1; rw [(m x y).2] at h2)
    · show x = _ * (-1); omega
    · show y = _ * 0; omega
    · omega
    · omega
section
variable {s n : Int} {S : Int → Int → Int → Prop}
/-- the turns at a place: which sets there are -/
theorem gr_tv0 (hG : gr_G 0 n S) (P Q : Int) : gr_t S 0 P Q = 1 ∨ (gr_t S 0 P Q = 2 ∧ gr_fx S 0 2 P Q) ∨ (gr_t S 0 P Q = 4 ∧ gr_fx S 0 1 P Q) := by
  have hs : (0 : Int) = 0 ∨ (0 : Int) = 1 := Or.inl rfl
  have hr : mt_rd 0 = 4 := rfl
  have hb : ∀ k : Int, (0 ≤ k ∧ k < 4) → 0 ≤ k ∧ k < 2 * mt_rd 0 := fun k hk => by omega
  have e : gr_t S 0 P Q = pg_b (gr_fx S 0 0 P Q) + pg_b (gr_fx S 0 1 P Q) + pg_b (gr_fx S 0 2 P Q) + pg_b (gr_fx S 0 3 P Q) := by
    show (0 : Int) + pg_b (gr_fx S 0 0 P Q) + pg_b (gr_fx S 0 1 P Q) + pg_b (gr_fx S 0 2 P Q) + pg_b (gr_fx S 0 3 P Q) = _
    omega
  have f0 : gr_fx S 0 0 P Q := ⟨0, 0, hG.1, by rw [(mt_x0 0 _ _).1]; omega, by rw [(mt_x0 0 _ _).2]; omega⟩
  have f12 : gr_fx S 0 1 P Q → gr_fx S 0 2 P Q := fun h1 => by
    have := gr_fx_mul hs hG (hb 1 (by decide)) (hb 1 (by decide)) h1 h1
    rwa [gr_d2.1] at this
  have f13 : gr_fx S 0 1 P Q → gr_fx S 0 3 P Q := fun h1 => by
    have := gr_fx_inv hs hG (hb 1 (by decide)) h1
    exact this
  have f31 : gr_fx S 0 3 P Q → gr_fx S 0 1 P Q := fun h1 => by
    have := gr_fx_inv hs hG (hb 3 (by decide)) h1
    exact this
  rw [e, pg_b_t f0]
  rcases Classical.em (gr_fx S 0 1 P Q) with h1 | h1
  · rw [pg_b_t h1, pg_b_t (f12 h1), pg_b_t (f13 h1)]
    exact Or.inr (Or.inr ⟨by decide, h1⟩)
  · rw [pg_b_f h1, pg_b_f (fun h3 => h1 (f31 h3))]
    rcases Classical.em (gr_fx S 0 2 P Q) with h2 | h2
    · rw [pg_b_t h2]; exact Or.inr (Or.inl ⟨by decide, h2⟩)
    · rw [pg_b_f h2]; exact Or.inl (by decide)
theorem gr_tv1 (hG : gr_G 1 n S) (P Q : Int) : gr_t S 1 P Q = 1 ∨ (gr_t S 1 P Q = 2 ∧ gr_fx S 1 3 P Q) ∨ (gr_t S 1 P Q = 3 ∧ gr_fx S 1 2 P Q) ∨ (gr_t S 1 P Q = 6 ∧ gr_fx S 1 1 P Q ∧ gr_fx S 1 2 P Q) := by
  have hs : (1 : Int) = 0 ∨ (1 : Int) = 1 := Or.inr rfl
  have hr : mt_rd 1 = 6 := rfl
  have hb : ∀ k : Int, (0 ≤ k ∧ k < 6) → 0 ≤ k ∧ k < 2 * mt_rd 1 := fun k hk => by omega
  have e : gr_t S 1 P Q = pg_b (gr_fx S 1 0 P Q) + pg_b (gr_fx S 1 1 P Q) + pg_b (gr_fx S 1 2 P Q) + pg_b (gr_fx S 1 3 P Q) + pg_b (gr_fx S 1 4 P Q) + pg_b (gr_fx S 1 5 P Q) := gr_cn6 (fun k => gr_fx S 1 k P Q)
  have f0 : gr_fx S 1 0 P Q := ⟨0, 0, hG.1, by rw [(mt_x0 1 _ _).1]; omega, by rw [(mt_x0 1 _ _).2]; omega⟩
  have c := gr_cl6 (F := fun k : Int => gr_fx S 1 k P Q) (fun j k hj hk a b => gr_fx_mul hs hG (by omega) (by omega) a b)
  have f24 : gr_fx S 1 2 P Q → gr_fx S 1 4 P Q := fun h1 => gr_fx_inv hs hG (hb 2 (by decide)) h1
  have f42 : gr_fx S 1 4 P Q → gr_fx S 1 2 P Q := fun h1 => gr_fx_inv hs hG (hb 4 (by decide)) h1
  have f23 : gr_fx S 1 2 P Q → gr_fx S 1 3 P Q → gr_fx S 1 5 P Q := fun h1 h2 => gr_fx_mul hs hG (hb 2 (by decide)) (hb 3 (by decide)) h1 h2
  rw [e, pg_b_t f0]
  rcases Classical.em (gr_fx S 1 1 P Q) with h1 | h1
  · obtain ⟨a2, a3, a4, a5⟩ := c.1 h1
    rw [pg_b_t h1, pg_b_t a2, pg_b_t a3, pg_b_t a4, pg_b_t a5]
    exact Or.inr (Or.inr (Or.inr ⟨by decide, h1, a2⟩))
  · have n5 : ¬ gr_fx S 1 5 P Q := fun h5 => h1 (c.2 h5).2.2.2
    rw [pg_b_f h1, pg_b_f n5]
    rcases Classical.em (gr_fx S 1 2 P Q) with h2 | h2
    · rw [pg_b_t h2, pg_b_t (f24 h2), pg_b_f (fun h3 => n5 (f23 h2 h3))]
      exact Or.inr (Or.inr (Or.inl ⟨by decide, h2⟩))
    · rw [pg_b_f h2, pg_b_f (fun h4 => h2 (f42 h4))]
      rcases Classical.em (gr_fx S 1 3 P Q) with h3 | h3
      · rw [pg_b_t h3]; exact Or.inr (Or.inl ⟨by decide, h3⟩)
      · rw [pg_b_f h3]; exact Or.inl (by decide)
/-- the half turn -/
def gr_hf (s : Int) : Int := if s = 0 then 2 else 3
theorem gr_hfx (hs : s = 0 ∨ s = 1) (x y : Int) : mt_x s (gr_hf s) x y = -x ∧ mt_y s (gr_hf s) x y = -y := by
  rcases hs with rfl | rfl
  · exact (gr_x0 x y).2.1
  · exact (gr_x1 x y).2.2.1
theorem gr_hfb (hs : s = 0 ∨ s = 1) : 0 < gr_hf s ∧ gr_hf s < mt_rd s := by
  rcases hs with rfl | rfl <;> decide
/-- a turn that is there has a place -/
theorem gr_rot (hs : s = 0 ∨ s = 1) (hG : gr_G s n S) {r x y : Int} (hr0 : 0 < r ∧ r < mt_rd s) (h : S r x y) : (∃ P Q : Int, 2 ≤ gr_t S s P Q) ∧ (r ≠ gr_hf s → ∃ P Q : Int, 3 ≤ gr_t S s P Q) := by
  have hrd := mt_rd_or hs
  -- it is enough to find a place that r fixes
  have key : ∀ P Q : Int, gr_fx S s r P Q → 2 ≤ gr_t S s P Q ∧ (r ≠ gr_hf s → 3 ≤ gr_t S s P Q) := by
    intro P Q hf
    have f0 : gr_fx S s 0 P Q := ⟨0, 0, hG.1, by rw [(mt_x0 s _ _).1]; omega, by rw [(mt_x0 s _ _).2]; omega⟩
    have hfr := gr_fx_inv hs hG (show 0 ≤ r ∧ r < 2 * mt_rd s by omega) hf
    have hli : mt_li s r = mt_rd s - r := by unfold mt_li; rw [if_neg (by omega)]
    rw [hli] at hfr
    have hle := fun (Q3 : Nat → Prop) (M3 : Nat) (f : Nat → Nat) (h1 : ∀ k, k < M3 → Q3 k → ∃ m, m < (mt_rd s).toNat ∧ gr_fx S s m P Q ∧ f m = k) => pg_cn_sur (P := fun k : Nat => gr_fx S s k P Q) (f := f) h1
    have er : ((r.toNat : Nat) : Int) = r := by omega
    have er2 : (((mt_rd s - r).toNat : Nat) : Int) = mt_rd s - r := by omega
    refine ⟨?_, fun hne => ?_⟩
    · have h2 := hle (fun _ => True) 2 (fun m => if m = 0 then 0 else 1) (fun k hk _ => by
        rcases (show k = 0 ∨ k = 1 by omega) with rfl | rfl
        · exact ⟨0, by omega, f0, rfl⟩
        · exact ⟨r.toNat, by omega, by rw [er]; exact hf, by show (if r.toNat = 0 then 0 else 1) = 1; rw [if_neg (by omega)]⟩)
      have h3 : pg_cn (fun _ => True) 2 = 2 := pg_cn_all (fun j _ => trivial)
      have h4 : gr_t S s P Q = pg_cn (fun k : Nat => gr_fx S s k P Q) (mt_rd s).toNat := rfl
      omega
    · have hnr : r ≠ mt_rd s - r := by
        intro he
        apply hne
        unfold gr_hf
        rcases hrd with ⟨e1, e2⟩ | ⟨e1, e2⟩
        · rw [if_pos e1]; omega
        · rw [if_neg (by omega)]; omega
      have h2 := hle (fun _ => True) 3 (fun m => if m = 0 then 0 else if m = r.toNat then 1 else 2) (fun k hk _ => by
        rcases (show k = 0 ∨ k = 1 ∨ k = 2 by omega) with rfl | rfl | rfl
        · exact ⟨0, by omega, f0, rfl⟩
        · exact ⟨r.toNat, by omega, by rw [er]; exact hf, by show (if r.toNat = 0 then 0 else if r.toNat = r.toNat then 1 else 2) = 1; rw [if_neg (by omega), if_pos rfl]⟩
        · exact ⟨(mt_rd s - r).toNat, by omega, by rw [er2]; exact hfr, by show (if (mt_rd s - r).toNat = 0 then 0 else if (mt_rd s - r).toNat = r.toNat then 1 else 2) = 2; rw [if_neg (by omega), if_neg (by omega)]⟩)
      have h3 : pg_cn (fun _ => True) 3 = 3 := pg_cn_all (fun j _ => trivial)
      have h4 : gr_t S s P Q = pg_cn (fun k : Nat => gr_fx S s k P Q) (mt_rd s).toNat := rfl
      omega
  have hex : ∃ P Q : Int, gr_fx S s r P Q := by
    rcases hrd with ⟨e1, e2⟩ | ⟨e1, e2⟩
    · subst e1
      rcases (show r = 1 ∨ r = 2 ∨ r = 3 by omega) with rfl | rfl | rfl
      · exact ⟨3 * (x - y), 3 * (x + y), x, y, h, by rw [(gr_x0 _ _).1.1]; omega, by rw [(gr_x0 _ _).1.2]; omega⟩
      · exact ⟨3 * x, 3 * y, x, y, h, by rw [(gr_x0 _ _).2.1.1]; omega, by rw [(gr_x0 _ _).2.1.2]; omega⟩
      · have m : ∀ x y : Int, mt_x 0 3 x y = 0 * x + 1 * y ∧ mt_y 0 3 x y = (-1) * x + 0 * y := fun x y => ⟨rfl, rfl⟩
        exact ⟨3 * (x + y), 3 * (y - x), x, y, h, by rw [(m _ _).1]; omega, by rw [(m _ _).2]; omega⟩
    · subst e1
      rcases (show r = 1 ∨ r = 2 ∨ r = 3 ∨ r = 4 ∨ r = 5 by omega) with rfl | rfl | rfl | rfl | rfl
      · exact ⟨-6 * y, 6 * (x + y), x, y, h, by rw [(gr_x1 _ _).1.1]; omega, by rw [(gr_x1 _ _).1.2]; omega⟩
      · exact ⟨2 * (x - y), 2 * (x + 2 * y), x, y, h, by rw [(gr_x1 _ _).2.1.1]; omega, by rw [(gr_x1 _ _).2.1.2]; omega⟩
      · exact ⟨3 * x, 3 * y, x, y, h, by rw [(gr_x1 _ _).2.2.1.1]; omega, by rw [(gr_x1 _ _).2.2.1.2]; omega⟩
      · exact ⟨2 * (2 * x + y), 2 * (y - x), x, y, h, by rw [(gr_x1 _ _).2.2.2.1]; omega, by rw [(gr_x1 _ _).2.2.2.2]; omega⟩
      · have m : ∀ x y : Int, mt_x 1 5 x y = 1 * x + 1 * y ∧ mt_y 1 5 x y = (-1) * x + 0 * y := fun x y => ⟨rfl, rfl⟩
        exact ⟨6 * (x + y), -6 * x, x, y, h, by rw [(m _ _).1]; omega, by rw [(m _ _).2]; omega⟩
  obtain ⟨P, Q, hf⟩ := hex
  exact ⟨⟨P, Q, (key P Q hf).1⟩, fun hne => ⟨P, Q, (key P Q hf).2 hne⟩⟩
end
