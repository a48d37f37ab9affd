/-! what an instruction's effect tells of the state before and behind it -/
theorem pg_dec {M : pg_M} (hC : pg_ck M = true) {i : Instr} {len pc : Nat} (hf : pg_fetch M.2.2.2.2.2.2.2 pc = some (i, len)) : decode M.2.1 pc = .ok (i, len) ∧ (pg_isSw i = true ∨ len = pg_len i) := by
  have hm : (pc, i, len) ∈ M.2.2.2.2.2.2.2 := by
    generalize M.2.2.2.2.2.2.2 = t at hf
    induction t with
    | nil => cases hf
    | cons a r ih =>
      obtain ⟨j, v⟩ := a
      simp only [pg_fetch] at hf
      cases hj : Nat.beq j pc with
      | true =>
        rw [hj] at hf
        cases hf
        rw [Nat.eq_of_beq_eq_true hj]
        exact List.mem_cons_self
      | false =>
        rw [hj] at hf
        exact List.mem_cons_of_mem _ (ih hf)
  have h1 := List.all_eq_true.mp hC _ hm
  simp only [Bool.and_eq_true, Bool.or_eq_true, decide_eq_true_eq] at h1
  exact h1
theorem pg_look_in {α : Type} {t : List (Nat × α)} {i : Nat} {v : α} (h : pg_look t i = some v) : (i, v) ∈ t := by
  induction t with
  | nil => cases h
  | cons a r ih =>
    obtain ⟨j, w⟩ := a
    simp only [pg_look] at h
    cases hj : Nat.beq j i with
    | true =>
      rw [hj] at h
      cases h
      rw [Nat.eq_of_beq_eq_true hj]
      exact List.mem_cons_self
    | false =>
      rw [hj] at h
      exact List.mem_cons_of_mem _ (ih h)
theorem pg_get_in {t : pg_L} {i : Nat} {v : pg_V} (h : pg_get t i = some v) : (i, v) ∈ t := by
  induction t with
  | nil => cases h
  | cons a r ih =>
    obtain ⟨j, w⟩ := a
    simp only [pg_get] at h
    cases hj : Nat.beq j i with
    | true =>
      rw [hj] at h
      cases h
      rw [Nat.eq_of_beq_eq_true hj]
      exact List.mem_cons_self
    | false =>
      rw [hj] at h
      exact List.mem_cons_of_mem _ (ih h)
theorem pg_lget {ad : Nat → Nat} {ls : Array Slot} {nL : Nat} {lv : pg_L} {i : Nat} {v : pg_V} (hl : lv_has ls nL (lv.map (pg_cl ad))) (h : pg_get lv i = some v) : ls[i]? = some (.val (pg_cv ad v)) :=
  hl.2.2 (i, pg_cv ad v) (List.mem_map.mpr ⟨(i, v), pg_get_in h, rfl⟩)
theorem pg_del_in {t : pg_L} {i : Nat} {v : pg_V} {q : Nat × pg_V} (h : q ∈ pg_del t i v) : q ∈ t ∧ pg_stays q.1 q.2 i v = true := by
  induction t with
  | nil => cases h
  | cons a r ih =>
    obtain ⟨j, w⟩ := a
    simp only [pg_del] at h
    cases hs : pg_stays j w i v with
    | true =>
      rw [hs] at h
      rcases List.mem_cons.mp h with h | h
      · subst h; exact ⟨List.mem_cons_self, hs⟩
      · exact ⟨List.mem_cons_of_mem _ (ih h).1, (ih h).2⟩
    | false =>
      rw [hs] at h
      exact ⟨List.mem_cons_of_mem _ (ih h).1, (ih h).2⟩
theorem pg_set_in {t : pg_L} {i : Nat} {v : pg_V} {q : Nat × pg_V} (h : q ∈ pg_set t i v) : q = (i, v) ∨ (q ∈ t ∧ pg_stays q.1 q.2 i v = true) := by
  induction t with
  | nil => exact Or.inl (List.mem_singleton.mp h)
  | cons a r ih =>
    obtain ⟨j, w⟩ := a
    simp only [pg_set] at h
    cases hj : Nat.beq j i with
    | true =>
      rw [hj] at h
      rcases List.mem_cons.mp h with h | h
      · exact Or.inl h
      · exact Or.inr ⟨List.mem_cons_of_mem _ (pg_del_in h).1, (pg_del_in h).2⟩
    | false =>
      rw [hj] at h
      cases hs : pg_stays j w i v with
      | true =>
        rw [hs] at h
        rcases List.mem_cons.mp h with h | h
        · subst h; exact Or.inr ⟨List.mem_cons_self, hs⟩
        · rcases ih h with h | h
          · exact Or.inl h
          · exact Or.inr ⟨List.mem_cons_of_mem _ h.1, h.2⟩
      | false =>
        rw [hs] at h
        rcases ih h with h | h
        · exact Or.inl h
        · exact Or.inr ⟨List.mem_cons_of_mem _ h.1, h.2⟩
theorem pg_cat (ad : Nat → Nat) (v : pg_V) : ((pg_cv ad v).category == 2) = pg_isL v := by
  rcases v with z | z | z <;> rfl
theorem pg_cat1 (ad : Nat → Nat) {v : pg_V} (h : pg_isL v = false) : (pg_cv ad v).category = 1 := by
  rcases v with z | z | z
  · rfl
  · cases h
  · rfl
theorem pg_beq (a c : Nat) : Nat.beq a c = (a == c) := by
  rw [Bool.eq_iff_iff, Nat.beq_eq]
  simp
theorem pg_lset1 {ad : Nat → Nat} {ls : Array Slot} {nL : Nat} {lv : pg_L} {i : Nat} {v : pg_V} (hv : pg_isL v = false)
    (hl : lv_has ls nL ((i, pg_cv ad v) :: (lv.map (pg_cl ad)).filter (fun q => !(q.1 == i) && !(q.1 + 1 == i && q.2.category == 2)))) : lv_has ls nL ((pg_set lv i v).map (pg_cl ad)) := by
  refine ⟨hl.1, hl.2.1, fun q hq => hl.2.2 q ?_⟩
  obtain ⟨q0, h0, rfl⟩ := List.mem_map.mp hq
  rcases pg_set_in h0 with rfl | ⟨h1, h2⟩
  · exact List.mem_cons_self
  · refine List.mem_cons_of_mem _ (List.mem_filter.mpr ⟨List.mem_map.mpr ⟨q0, h1, rfl⟩, ?_⟩)
    simp only [pg_stays, hv, pg_beq] at h2
    simp only [pg_cl, pg_cat]
    simpa using h2
theorem pg_lset2 {ad : Nat → Nat} {ls : Array Slot} {nL : Nat} {lv : pg_L} {i : Nat} {v : pg_V} (hv : pg_isL v = true)
    (hl : lv_has ls nL ((i, pg_cv ad v) :: (lv.map (pg_cl ad)).filter (fun q => !(q.1 == i) && (!(q.1 == i + 1) && !(q.1 + 1 == i && q.2.category == 2))))) : lv_has ls nL ((pg_set lv i v).map (pg_cl ad)) := by
  refine ⟨hl.1, hl.2.1, fun q hq => hl.2.2 q ?_⟩
  obtain ⟨q0, h0, rfl⟩ := List.mem_map.mp hq
  rcases pg_set_in h0 with rfl | ⟨h1, h2⟩
  · exact List.mem_cons_self
  · refine List.mem_cons_of_mem _ (List.mem_filter.mpr ⟨List.mem_map.mpr ⟨q0, h1, rfl⟩, ?_⟩)
    simp only [pg_stays, hv, pg_beq] at h2
    simp only [pg_cl, pg_cat]
    simpa using h2
theorem pg_ldI_inv {i n : Nat} {st st' : pg_St} {L : List Prop} (he : pg_ldI i n st = some (L, st')) : ∃ x, pg_get st.2.1 i = some (.inl x) ∧ st' = (st.1 + n, st.2.1, .inl x :: st.2.2.1, st.2.2.2) := by
  simp only [pg_ldI] at he
  split at he
  · rename_i x hx; cases he; exact ⟨x, hx, rfl⟩
  · cases he
theorem pg_ldL_inv {i n : Nat} {st st' : pg_St} {L : List Prop} (he : pg_ldL i n st = some (L, st')) : ∃ x, pg_get st.2.1 i = some (.inr (.inl x)) ∧ st' = (st.1 + n, st.2.1, .inr (.inl x) :: st.2.2.1, st.2.2.2) := by
  simp only [pg_ldL] at he
  split at he
  · rename_i x hx; cases he; exact ⟨x, hx, rfl⟩
  · cases he
theorem pg_ldA_inv {i n : Nat} {st st' : pg_St} {L : List Prop} (he : pg_ldA i n st = some (L, st')) : ∃ x, pg_get st.2.1 i = some (.inr (.inr x)) ∧ st' = (st.1 + n, st.2.1, .inr (.inr x) :: st.2.2.1, st.2.2.2) := by
  simp only [pg_ldA] at he
  split at he
  · rename_i x hx; cases he; exact ⟨x, hx, rfl⟩
  · cases he
theorem pg_blt {a c : Nat} (h : Nat.blt a c = true) : a < c := Nat.le_of_ble_eq_true h
theorem pg_stI_inv {mL i n : Nat} {st st' : pg_St} {L : List Prop} (he : pg_stI mL i n st = some (L, st')) : ∃ x r, st.2.2.1 = .inl x :: r ∧ i < mL ∧ st' = (st.1 + n, pg_set st.2.1 i (.inl x), r, st.2.2.2) := by
  simp only [pg_stI] at he
  split at he
  · rename_i x r hx
    cases hb : Nat.blt i mL with
    | false => rw [hb] at he; cases he
    | true => rw [hb] at he; cases he; exact ⟨x, r, hx, pg_blt hb, rfl⟩
  · cases he
theorem pg_stL_inv {mL i n : Nat} {st st' : pg_St} {L : List Prop} (he : pg_stL mL i n st = some (L, st')) : ∃ x r, st.2.2.1 = .inr (.inl x) :: r ∧ i + 1 < mL ∧ st' = (st.1 + n, pg_set st.2.1 i (.inr (.inl x)), r, st.2.2.2) := by
  simp only [pg_stL] at he
  split at he
  · rename_i x r hx
    cases hb : Nat.blt (i + 1) mL with
    | false => rw [hb] at he; cases he
    | true => rw [hb] at he; cases he; exact ⟨x, r, hx, pg_blt hb, rfl⟩
  · cases he
theorem pg_stA_inv {mL i n : Nat} {st st' : pg_St} {L : List Prop} (he : pg_stA mL i n st = some (L, st')) : ∃ x r, st.2.2.1 = .inr (.inr x) :: r ∧ i < mL ∧ st' = (st.1 + n, pg_set st.2.1 i (.inr (.inr x)), r, st.2.2.2) := by
  simp only [pg_stA] at he
  split at he
  · rename_i x r hx
    cases hb : Nat.blt i mL with
    | false => rw [hb] at he; cases he
    | true => rw [hb] at he; cases he; exact ⟨x, r, hx, pg_blt hb, rfl⟩
  · cases he
theorem pg_i1_inv {f : Int → Int} {st st' : pg_St} {L : List Prop} (he : pg_i1 f st = some (L, st')) : ∃ x r, st.2.2.1 = .inl x :: r ∧ st' = (st.1 + 1, st.2.1, .inl (f x) :: r, st.2.2.2) := by
  simp only [pg_i1] at he
  split at he
  · rename_i x r hx; cases he; exact ⟨x, r, hx, rfl⟩
  · cases he
theorem pg_i2_inv {f : Int → Int → Int} {st st' : pg_St} {L : List Prop} (he : pg_i2 f st = some (L, st')) : ∃ x y r, st.2.2.1 = .inl y :: .inl x :: r ∧ st' = (st.1 + 1, st.2.1, .inl (f x y) :: r, st.2.2.2) := by
  simp only [pg_i2] at he
  split at he
  · rename_i y x r hx; cases he; exact ⟨x, y, r, hx, rfl⟩
  · cases he
theorem pg_i2c_inv {f : Int → Int → Int} {st st' : pg_St} {L : List Prop} (he : pg_i2c f st = some (L, st')) (hL : pg_all L) : ∃ x y r, st.2.2.1 = .inl y :: .inl x :: r ∧ (y ≠ 0 ∧ pg_inR x ∧ pg_inR y) ∧ st' = (st.1 + 1, st.2.1, .inl (f x y) :: r, st.2.2.2) := by
  simp only [pg_i2c] at he
  split at he
  · rename_i y x r hx; cases he; exact ⟨x, y, r, hx, hL, rfl⟩
  · cases he
theorem pg_l1_inv {f : Int → Int} {st st' : pg_St} {L : List Prop} (he : pg_l1 f st = some (L, st')) : ∃ x r, st.2.2.1 = .inr (.inl x) :: r ∧ st' = (st.1 + 1, st.2.1, .inr (.inl (f x)) :: r, st.2.2.2) := by
  simp only [pg_l1] at he
  split at he
  · rename_i x r hx; cases he; exact ⟨x, r, hx, rfl⟩
  · cases he
theorem pg_l2_inv {f : Int → Int → Int} {st st' : pg_St} {L : List Prop} (he : pg_l2 f st = some (L, st')) : ∃ x y r, st.2.2.1 = .inr (.inl y) :: .inr (.inl x) :: r ∧ st' = (st.1 + 1, st.2.1, .inr (.inl (f x y)) :: r, st.2.2.2) := by
  simp only [pg_l2] at he
  split at he
  · rename_i y x r hx; cases he; exact ⟨x, y, r, hx, rfl⟩
  · cases he
theorem pg_lrm_inv {st st' : pg_St} {L : List Prop} (he : pg_lrm st = some (L, st')) (hL : pg_all L) : ∃ x y r, st.2.2.1 = .inr (.inl y) :: .inr (.inl x) :: r ∧ (y ≠ 0 ∧ pg_inL x ∧ pg_inL y) ∧ st' = (st.1 + 1, st.2.1, .inr (.inl (Int.tmod x y)) :: r, st.2.2.2) := by
  simp only [pg_lrm] at he
  split at he
  · rename_i y x r hx; cases he; exact ⟨x, y, r, hx, hL, rfl⟩
  · cases he
theorem pg_lcm_inv {st st' : pg_St} {L : List Prop} (he : pg_lcm st = some (L, st')) (hL : pg_all L) : ∃ x y r, st.2.2.1 = .inr (.inl y) :: .inr (.inl x) :: r ∧ (pg_inL x ∧ pg_inL y) ∧ st' = (st.1 + 1, st.2.1, .inl (pg_cmp x y) :: r, st.2.2.2) := by
  simp only [pg_lcm] at he
  split at he
  · rename_i y x r hx; cases he; exact ⟨x, y, r, hx, hL, rfl⟩
  · cases he
theorem pg_i2lo_inv {st st' : pg_St} {L : List Prop} (he : pg_i2lo st = some (L, st')) (hL : pg_all L) : ∃ x r, st.2.2.1 = .inl x :: r ∧ pg_inR x ∧ st' = (st.1 + 1, st.2.1, .inr (.inl x) :: r, st.2.2.2) := by
  simp only [pg_i2lo] at he
  split at he
  · rename_i x r hx; cases he; exact ⟨x, r, hx, hL, rfl⟩
  · cases he
theorem pg_l2io_inv {st st' : pg_St} {L : List Prop} (he : pg_l2io st = some (L, st')) : ∃ x r, st.2.2.1 = .inr (.inl x) :: r ∧ st' = (st.1 + 1, st.2.1, .inl x :: r, st.2.2.2) := by
  simp only [pg_l2io] at he
  split at he
  · rename_i x r hx; cases he; exact ⟨x, r, hx, rfl⟩
  · cases he
theorem pg_dup_inv {st st' : pg_St} {L : List Prop} (he : pg_dup st = some (L, st')) : ∃ v r, st.2.2.1 = v :: r ∧ pg_isL v = false ∧ st' = (st.1 + 1, st.2.1, v :: v :: r, st.2.2.2) := by
  simp only [pg_dup] at he
  split at he
  · rename_i v r hx
    cases hb : pg_isL v with
    | true => rw [hb] at he; cases he
    | false => rw [hb] at he; cases he; exact ⟨v, r, hx, hb, rfl⟩
  · cases he
theorem pg_pop_inv {st st' : pg_St} {L : List Prop} (he : pg_pop st = some (L, st')) : ∃ v r, st.2.2.1 = v :: r ∧ pg_isL v = false ∧ st' = (st.1 + 1, st.2.1, r, st.2.2.2) := by
  simp only [pg_pop] at he
  split at he
  · rename_i v r hx
    cases hb : pg_isL v with
    | true => rw [hb] at he; cases he
    | false => rw [hb] at he; cases he; exact ⟨v, r, hx, hb, rfl⟩
  · cases he
theorem pg_dup2_inv {st st' : pg_St} {L : List Prop} (he : pg_dup2 st = some (L, st')) : ∃ v w r, st.2.2.1 = v :: w :: r ∧ pg_isL v = false ∧ pg_isL w = false ∧ st' = (st.1 + 1, st.2.1, v :: w :: v :: w :: r, st.2.2.2) := by
  simp only [pg_dup2] at he
  split at he
  · rename_i v w r hx
    cases hb : pg_isL v with
    | true => rw [hb] at he; cases he
    | false =>
      cases hc : pg_isL w with
      | true => rw [hb, hc] at he; cases he
      | false => rw [hb, hc] at he; cases he; exact ⟨v, w, r, hx, hb, hc, rfl⟩
  · cases he
theorem pg_inc_inv {mL i : Nat} {n : Int} {st st' : pg_St} {L : List Prop} (he : pg_inc mL i n st = some (L, st')) : ∃ x, pg_get st.2.1 i = some (.inl x) ∧ i < mL ∧ st' = (st.1 + 3, pg_set st.2.1 i (.inl (x + n)), st.2.2.1, st.2.2.2) := by
  simp only [pg_inc] at he
  split at he
  · rename_i x hx
    cases hb : Nat.blt i mL with
    | false => rw [hb] at he; cases he
    | true => rw [hb] at he; cases he; exact ⟨x, hx, pg_blt hb, rfl⟩
  · cases he
theorem pg_gto_inv {off : Int} {st st' : pg_St} {L : List Prop} (he : pg_gto off st = some (L, st')) : ∃ t : Nat, (st.1 : Int) + off = (t : Int) ∧ st' = (t, st.2.1, st.2.2.1, st.2.2.2) := by
  simp only [pg_gto] at he
  split at he
  · rename_i t ht; cases he; exact ⟨t, ht, rfl⟩
  · cases he
theorem pg_sw_inv {d lo hi : Int} {offs : Array Int} {st st' : pg_St} {L : List Prop} (he : pg_sw d lo hi offs st = some (L, st')) (hL : pg_all L) : ∃ (x : Int) (r : List pg_V) (off : Int) (t : Nat), st.2.2.1 = .inl x :: r ∧ pg_swt d lo hi offs x = some off ∧ (st.1 : Int) + off = (t : Int) ∧ pg_inR x ∧ st' = (t, st.2.1, r, st.2.2.2) := by
  simp only [pg_sw] at he
  split at he
  · rename_i x r hx
    split at he
    · rename_i off ho
      split at he
      · rename_i t ht; cases he; exact ⟨x, r, off, t, hx, ho, ht, hL, rfl⟩
      · cases he
    · cases he
  · cases he
theorem pg_andT {a c : Bool} (h : (a && c) = true) : a = true ∧ c = true := by
  simpa using h
theorem pg_ald_inv {sh : List pg_Ce} {kd : Nat} {st st' : pg_St} {L : List Prop} (he : pg_ald sh kd st = some (L, st')) (hL : pg_all L) : ∃ (i : Int) (q : Nat) (r : List pg_V), st.2.2.1 = .inl i :: .inr (.inr q) :: r ∧
    ((∃ n fs, sh[q]? = some (kd, n, fs) ∧ kd < 3 ∧ (0 ≤ i ∧ i < (n : Int)) ∧ st' = (st.1 + 1, st.2.1, pg_fv kd (st.2.2.2 q i.toNat) :: r, st.2.2.2)) ∨
     (kd = 0 ∧ q = 1000 ∧ (0 ≤ i ∧ i < 8) ∧ st' = (st.1 + 1, st.2.1, .inl (pg_sq i.toNat) :: r, st.2.2.2)) ∨
     (kd = 0 ∧ q = 1001 ∧ (0 ≤ i ∧ i < 12) ∧ st' = (st.1 + 1, st.2.1, .inl (pg_tq i.toNat) :: r, st.2.2.2))) := by
  simp only [pg_ald] at he
  split at he
  · rename_i i q r hx
    refine ⟨i, q, r, hx, ?_⟩
    split at he
    · rename_i k n fs hn
      rw [pg_nth_eq] at hn
      cases hb : (Nat.beq k kd && Nat.blt kd 3) with
      | false => rw [hb] at he; cases he
      | true =>
        rw [hb] at he
        obtain ⟨h1, h2⟩ := pg_andT hb
        cases he
        left
        rw [Nat.eq_of_beq_eq_true h1] at hn
        exact ⟨n, fs, hn, pg_blt h2, hL, rfl⟩
    · cases hb : Nat.beq kd 0 with
      | false => rw [hb] at he; cases he
      | true =>
        rw [hb] at he
        have hk := Nat.eq_of_beq_eq_true hb
        simp only [cond_true] at he
        split at he
        · cases he; exact Or.inr (Or.inl ⟨hk, rfl, hL, rfl⟩)
        · cases he; exact Or.inr (Or.inr ⟨hk, rfl, hL, rfl⟩)
        · cases he
  · cases he
theorem pg_ast_inv {sh : List pg_Ce} {kd : Nat} {st st' : pg_St} {L : List Prop} (he : pg_ast sh kd st = some (L, st')) (hL : pg_all L) :
    (∃ (x i : Int) (q : Nat) (r : List pg_V) (n : Nat) (fs : List Nat), st.2.2.1 = .inl x :: .inl i :: .inr (.inr q) :: r ∧ sh[q]? = some (kd, n, fs) ∧ (kd = 0 ∨ (kd = 1 ∧ (x = 0 ∨ x = 1))) ∧ (0 ≤ i ∧ i < (n : Int)) ∧ st' = (st.1 + 1, st.2.1, r, pg_up st.2.2.2 q i.toNat x)) ∨
    (∃ (x i : Int) (q : Nat) (r : List pg_V) (n : Nat) (fs : List Nat), st.2.2.1 = .inr (.inl x) :: .inl i :: .inr (.inr q) :: r ∧ sh[q]? = some (kd, n, fs) ∧ kd = 2 ∧ (0 ≤ i ∧ i < (n : Int)) ∧ st' = (st.1 + 1, st.2.1, r, pg_up st.2.2.2 q i.toNat x)) := by
  simp only [pg_ast] at he
  split at he
  · rename_i x i q r hx
    split at he
    · rename_i k n fs hn
      rw [pg_nth_eq] at hn
      cases hb : Nat.beq k kd with
      | false => rw [hb] at he; cases he
      | true =>
        rw [hb] at he
        have hk := Nat.eq_of_beq_eq_true hb
        subst hk
        simp only [cond_true] at he
        split at he
        · cases he; exact Or.inl ⟨x, i, q, r, n, fs, hx, hn, Or.inl rfl, hL, rfl⟩
        · cases he; exact Or.inl ⟨x, i, q, r, n, fs, hx, hn, Or.inr ⟨rfl, hL.2⟩, hL.1, rfl⟩
        · cases he
    · cases he
  · rename_i x i q r hx
    split at he
    · rename_i k n fs hn
      rw [pg_nth_eq] at hn
      cases hb : (Nat.beq k kd && Nat.beq kd 2) with
      | false => rw [hb] at he; cases he
      | true =>
        rw [hb] at he
        obtain ⟨h1, h2⟩ := pg_andT hb
        have hk := Nat.eq_of_beq_eq_true h1
        subst hk
        cases he
        exact Or.inr ⟨x, i, q, r, n, fs, hx, hn, Nat.eq_of_beq_eq_true h2, hL, rfl⟩
    · cases he
  · cases he
theorem pg_aln_inv {sh : List pg_Ce} {st st' : pg_St} {L : List Prop} (he : pg_aln sh st = some (L, st')) : ∃ (q : Nat) (r : List pg_V), st.2.2.1 = .inr (.inr q) :: r ∧
    ((∃ k n fs, sh[q]? = some (k, n, fs) ∧ k < 3 ∧ st' = (st.1 + 1, st.2.1, .inl (n : Int) :: r, st.2.2.2)) ∨
     (q = 1000 ∧ st' = (st.1 + 1, st.2.1, .inl 8 :: r, st.2.2.2)) ∨ (q = 1001 ∧ st' = (st.1 + 1, st.2.1, .inl 12 :: r, st.2.2.2))) := by
  simp only [pg_aln] at he
  split at he
  · rename_i q r hx
    refine ⟨q, r, hx, ?_⟩
    split at he
    · rename_i k n fs hn
      rw [pg_nth_eq] at hn
      cases hb : Nat.blt k 3 with
      | false => rw [hb] at he; cases he
      | true => rw [hb] at he; cases he; exact Or.inl ⟨k, n, fs, hn, pg_blt hb, rfl⟩
    · split at he
      · cases he; exact Or.inr (Or.inl ⟨rfl, rfl⟩)
      · cases he; exact Or.inr (Or.inr ⟨rfl, rfl⟩)
      · cases he
  · cases he
theorem pg_gf_inv {sh : List pg_Ce} {e : Option (Nat × Nat)} {st st' : pg_St} {L : List Prop} (he : pg_gf sh e st = some (L, st')) : ∃ (ci k q : Nat) (r : List pg_V) (fs : List Nat) (c : Nat), e = some (ci, k) ∧ st.2.2.1 = .inr (.inr q) :: r ∧ sh[q]? = some (3, ci, fs) ∧ fs[k]? = some c ∧ st' = (st.1 + 3, st.2.1, pg_fv c (st.2.2.2 q k) :: r, st.2.2.2) := by
  simp only [pg_gf] at he
  split at he
  · rename_i ci k
    split at he
    · rename_i q r hx
      split at he
      · rename_i cj fs hn
        rw [pg_nth_eq] at hn
        cases hb : Nat.beq cj ci with
        | false => rw [hb] at he; cases he
        | true =>
          rw [hb] at he
          have hk := Nat.eq_of_beq_eq_true hb
          subst hk
          simp only [cond_true] at he
          split at he
          · rename_i c hc
            rw [pg_nth_eq] at hc
            cases he
            exact ⟨cj, k, q, r, fs, c, rfl, hx, hn, hc, rfl⟩
          · cases he
      · cases he
    · cases he
  · cases he
theorem pg_pf_inv {sh : List pg_Ce} {e : Option (Nat × Nat)} {st st' : pg_St} {L : List Prop} (he : pg_pf sh e st = some (L, st')) (hL : pg_all L) : ∃ (ci k q : Nat) (r : List pg_V) (fs : List Nat) (c : Nat) (x : Int), e = some (ci, k) ∧ st.2.2.1 = pg_fv c x :: .inr (.inr q) :: r ∧ c < 3 ∧ (c = 1 → x = 0 ∨ x = 1) ∧ sh[q]? = some (3, ci, fs) ∧ fs[k]? = some c ∧ st' = (st.1 + 3, st.2.1, r, pg_up st.2.2.2 q k x) := by
  simp only [pg_pf] at he
  split at he
  · rename_i ci k
    split at he
    · rename_i x q r hx
      split at he
      · rename_i cj fs hn
        rw [pg_nth_eq] at hn
        cases hb : Nat.beq cj ci with
        | false => rw [hb] at he; cases he
        | true =>
          rw [hb] at he
          have hk := Nat.eq_of_beq_eq_true hb
          subst hk
          simp only [cond_true] at he
          split at he
          · rename_i hc
            rw [pg_nth_eq] at hc
            cases he
            exact ⟨cj, k, q, r, fs, 0, x, rfl, hx, by decide, fun h => (by cases h), hn, hc, rfl⟩
          · rename_i hc
            rw [pg_nth_eq] at hc
            cases he
            exact ⟨cj, k, q, r, fs, 1, x, rfl, hx, by decide, fun _ => hL, hn, hc, rfl⟩
          · cases he
      · cases he
    · rename_i x q r hx
      split at he
      · rename_i cj fs hn
        rw [pg_nth_eq] at hn
        cases hb : Nat.beq cj ci with
        | false => rw [hb] at he; cases he
        | true =>
          rw [hb] at he
          have hk := Nat.eq_of_beq_eq_true hb
          subst hk
          simp only [cond_true] at he
          split at he
          · rename_i hc
            rw [pg_nth_eq] at hc
            cases he
            exact ⟨cj, k, q, r, fs, 2, x, rfl, hx, by decide, fun h => (by cases h), hn, hc, rfl⟩
          · cases he
      · cases he
    · cases he
  · cases he
theorem pg_lc_inv {e : Option Int} {st st' : pg_St} {L : List Prop} (he : pg_lc e st = some (L, st')) : ∃ z, e = some z ∧ st' = (st.1 + 3, st.2.1, .inr (.inl z) :: st.2.2.1, st.2.2.2) := by
  simp only [pg_lc] at he
  split at he
  · rename_i z; cases he; exact ⟨z, rfl, rfl⟩
  · cases he
theorem pg_gs_inv {e : Option Nat} {st st' : pg_St} {L : List Prop} (he : pg_gs e st = some (L, st')) : ∃ q, e = some q ∧ st' = (st.1 + 3, st.2.1, .inr (.inr q) :: st.2.2.1, st.2.2.2) := by
  simp only [pg_gs] at he
  split at he
  · rename_i z; cases he; exact ⟨z, rfl, rfl⟩
  · cases he
/-! shapes -/
theorem pg_sh_of (b : Bool) {q : Nat} {c : pg_Ce} (h : (pg_sh b)[q]? = some c) : pg_shk c = true := List.all_eq_true.mp (pg_sh_ck b) c (List.mem_of_getElem? h)
theorem pg_sh_n {b : Bool} {q k n : Nat} {fs : List Nat} (h : (pg_sh b)[q]? = some (k, n, fs)) (hk : k < 3) : n < 2147483648 := by
  have h1 := pg_sh_of b h
  rcases (show k = 0 ∨ k = 1 ∨ k = 2 by omega) with rfl | rfl | rfl
  · exact pg_blt (pg_andT (a := Nat.blt 0 3) (c := Nat.blt n 2147483648) h1).2
  · exact pg_blt (pg_andT (a := Nat.blt 1 3) (c := Nat.blt n 2147483648) h1).2
  · exact pg_blt (pg_andT (a := Nat.blt 2 3) (c := Nat.blt n 2147483648) h1).2
theorem pg_sh_f {b : Bool} {q ci k c : Nat} {fs : List Nat} {C : String} {T : u_T} {N : Nat} (h : (pg_sh b)[q]? = some (3, ci, fs)) (hcl : pgCl[ci]? = some (C, T, N)) (hk : fs[k]? = some c) (hc : c < 3) : parseFieldDescriptor (T k).2.2.1 = some (pg_tyOf c) ∧ (T k).2.2.2 = false := by
  have h1 := pg_sh_of b h
  simp only [pg_shk, hcl] at h1
  obtain ⟨h2, h3⟩ := pg_andT h1
  have hl : k < fs.length := (List.getElem?_eq_some_iff.mp hk).1
  rw [Nat.eq_of_beq_eq_true h2] at hl
  have h4 := List.all_eq_true.mp h3 k (List.mem_range.mpr hl)
  rw [hk] at h4
  simp only [Bool.or_eq_true, Bool.and_eq_true, decide_eq_true_eq, Bool.not_eq_true'] at h4
  rcases h4 with h4 | h4
  · exact absurd (Nat.le_of_ble_eq_true h4) (by omega)
  · exact h4
