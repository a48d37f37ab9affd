section PGR
variable {b : Bool} {M : pg_M} {Q : Option pg_V → pg_H → Prop} {p : Program} {l : Launch} {e : Env} {R : Room} {s : State} {m : MethodId} {args : Array Value} {below : List Frame} {meth : Method} {c : Code} {K : pg_K3} {D : va_G} {ad : Nat → Nat} {A : Nat → Prop} {st st' : pg_St}
theorem pg_upd_I (h : pg_H) (q i : Nat) (x : Int) : (fun j => pg_I (pg_up h q i x q j)) = upd (fun j => pg_I (h q j)) i (pg_I x) := by
  funext j
  rw [pg_up_q]
  by_cases hj : j = i
  · subst hj; simp [upd]
  · have : Nat.beq j i = false := by rw [pg_beq]; simp [hj]
    simp [upd, hj, this]
theorem pg_upd_J (h : pg_H) (q i : Nat) (x : Int) : (fun j => pg_J (pg_up h q i x q j)) = vp_updL (fun j => pg_J (h q j)) i (pg_J x) := by
  funext j
  rw [pg_up_q]
  by_cases hj : j = i
  · subst hj; simp [vp_updL]
  · have : Nat.beq j i = false := by rw [pg_beq]; simp [hj]
    simp [vp_updL, hj, this]
theorem pg_fs_set {ad : Nat → Nat} {fs : List Nat} {k c : Nat} (h : pg_H) (q : Nat) (x : Int) (hk : fs[k]? = some c) (hc : c < 3) : (fs.mapIdx (fun j c => pg_fw ad c (h q j))).set k (pg_fw ad c x) = fs.mapIdx (fun j c => pg_fw ad c (pg_up h q k x q j)) := by
  apply List.ext_getElem?
  intro j
  by_cases hj : k = j
  · subst hj
    have hl : k < (fs.mapIdx (fun j c => pg_fw ad c (h q j))).length := by
      rw [List.length_mapIdx]
      exact (List.getElem?_eq_some_iff.mp hk).1
    rw [List.getElem?_set_self hl, List.getElem?_mapIdx, hk, pg_up_q]
    simp
  · rw [List.getElem?_set_ne hj, List.getElem?_mapIdx, List.getElem?_mapIdx, pg_up_q]
    have : Nat.beq j k = false := by rw [pg_beq]; simp; exact fun h => hj h.symm
    simp [this]
theorem pg_nar {c : Nat} {x : Int} (hc : c < 3) (hx : c = 1 → x = 0 ∨ x = 1) : narrow (pg_tyOf c) (pg_fw ad c x) = pg_fw ad c x ∧ fits (pg_tyOf c) (pg_fw ad c x) = true := by
  rcases (show c = 0 ∨ c = 1 ∨ c = 2 by omega) with rfl | rfl | rfl
  · exact ⟨rfl, rfl⟩
  · rcases hx rfl with rfl | rfl
    · exact ⟨by show narrow .boolean (.int (pg_I 0)) = .int (pg_I 0); decide +kernel, by show fits .boolean (.int (pg_I 0)) = true; decide +kernel⟩
    · exact ⟨by show narrow .boolean (.int (pg_I 1)) = .int (pg_I 1); decide +kernel, by show fits .boolean (.int (pg_I 1)) = true; decide +kernel⟩
  · exact ⟨rfl, rfl⟩
set_option maxHeartbeats 4000000 in
theorem pg_step1 (hX : pg_Cx p R s m args meth c K D ad A M) {i : Instr} {len : Nat} {L : List Prop} (hf : pg_fetch M.2.2.2.2.2.2.2 st.1 = some (i, len))
    (he : pg_eff (pg_sh b) M.2.2.1 (pg_FT M.2.2.2.2.1) (pg_CT M.2.2.2.2.1) (pg_ST M.2.2.2.2.1) i st = some (L, st')) (hL : pg_all L)
    (hg : pg_G b M Q p l e R s m args below meth c K D ad A st') : pg_G b M Q p l e R s m args below meth c K D ad A st := by
  obtain ⟨hx, hb, hml, hr, hlk, hown, hts, hK, hR, hA, hck, hZ⟩ := hX
  obtain ⟨hd, hlen⟩ := pg_dec hck hf
  unfold pg_eff at he
  split at he
  all_goals (try simp only [pg_isSw, pg_len, Bool.false_eq_true, false_or] at hlen)
  all_goals (try subst hlen)
  · obtain ⟨x, h1, rfl⟩ := pg_ldI_inv he
    intro H locs ls hl hP hD hS
    exact lv_iload_n hx hb hd rfl (pg_lget hl h1) (hg H locs ls hl hP hD hS)
  · obtain ⟨x, h1, rfl⟩ := pg_ldI_inv he
    intro H locs ls hl hP hD hS
    exact lv_iload hx hb hd (pg_lget hl h1) (hg H locs ls hl hP hD hS)
  · obtain ⟨x, h1, rfl⟩ := pg_ldL_inv he
    intro H locs ls hl hP hD hS
    exact lv_lload_n hx hb hd rfl (pg_lget hl h1) (hg H locs ls hl hP hD hS)
  · obtain ⟨x, h1, rfl⟩ := pg_ldL_inv he
    intro H locs ls hl hP hD hS
    exact lv_lload hx hb hd (pg_lget hl h1) (hg H locs ls hl hP hD hS)
  · obtain ⟨x, h1, rfl⟩ := pg_ldA_inv he
    intro H locs ls hl hP hD hS
    exact lv_aload_n hx hb hd rfl (pg_lget hl h1) (hg H locs ls hl hP hD hS)
  · obtain ⟨x, h1, rfl⟩ := pg_ldA_inv he
    intro H locs ls hl hP hD hS
    exact lv_aload hx hb hd (pg_lget hl h1) (hg H locs ls hl hP hD hS)
  · obtain ⟨x, r, h1, h2, rfl⟩ := pg_stI_inv he
    intro H locs ls hl hP hD hS
    rw [h1]
    exact lv_istore_n hx hb hd rfl hl h2 rfl (fun ls' hl' => hg H locs ls' (pg_lset1 (v := .inl x) rfl hl') hP hD hS)
  · obtain ⟨x, r, h1, h2, rfl⟩ := pg_stI_inv he
    intro H locs ls hl hP hD hS
    rw [h1]
    exact lv_istore hx hb hd hl h2 rfl (fun ls' hl' => hg H locs ls' (pg_lset1 (v := .inl x) rfl hl') hP hD hS)
  · obtain ⟨x, r, h1, h2, rfl⟩ := pg_stL_inv he
    intro H locs ls hl hP hD hS
    rw [h1]
    exact lv_lstore_n hx hb hd rfl hl h2 rfl (fun ls' hl' => hg H locs ls' (pg_lset2 (v := .inr (.inl x)) rfl hl') hP hD hS)
  · obtain ⟨x, r, h1, h2, rfl⟩ := pg_stL_inv he
    intro H locs ls hl hP hD hS
    rw [h1]
    exact lv_lstore hx hb hd hl h2 rfl (fun ls' hl' => hg H locs ls' (pg_lset2 (v := .inr (.inl x)) rfl hl') hP hD hS)
  · obtain ⟨x, r, h1, h2, rfl⟩ := pg_stA_inv he
    intro H locs ls hl hP hD hS
    rw [h1]
    exact lv_astore_n hx hb hd rfl hl h2 rfl (fun ls' hl' => hg H locs ls' (pg_lset1 (v := .inr (.inr x)) rfl hl') hP hD hS)
  · rename_i n
    obtain rfl := pg_psh_inv he
    intro H locs ls hl hP hD hS
    exact lv_iconst (v := pg_I n) hx hb hd rfl (hg H locs ls hl hP hD hS)
  · rename_i n
    cases hn : (decide (-128 ≤ n) && decide (n ≤ 127)) with
    | false => rw [hn] at he; cases he
    | true =>
      rw [hn] at he
      simp only [cond_true] at he
      obtain ⟨h1, h2⟩ := pg_andT hn
      obtain rfl := pg_psh_inv he
      intro H locs ls hl hP hD hS
      exact lv_bipush (v := pg_I n) hx hb hd (pg_bi n (of_decide_eq_true h1) (of_decide_eq_true h2)) (hg H locs ls hl hP hD hS)
  · rename_i n
    cases hn : (decide (-32768 ≤ n) && decide (n ≤ 32767)) with
    | false => rw [hn] at he; cases he
    | true =>
      rw [hn] at he
      simp only [cond_true] at he
      obtain ⟨h1, h2⟩ := pg_andT hn
      obtain rfl := pg_psh_inv he
      intro H locs ls hl hP hD hS
      exact lv_sipush (v := pg_I n) hx hb hd (pg_si n (of_decide_eq_true h1) (of_decide_eq_true h2)) (hg H locs ls hl hP hD hS)
  · rename_i n
    obtain rfl := pg_psh_inv he
    intro H locs ls hl hP hD hS
    exact lv_lconst (v := pg_J (n.val : Int)) hx hb hd (by
      rcases n with ⟨n, hn⟩
      rcases (show n = 0 ∨ n = 1 by omega) with rfl | rfl <;> rfl) (hg H locs ls hl hP hD hS)
  · rename_i ix
    obtain ⟨z, h1, rfl⟩ := pg_lc_inv he
    intro H locs ls hl hP hD hS
    exact lv_ldc2 (v := pg_J z) hx hb hown (hts _ (pg_CTok _ _ (pg_look_in h1))) hd (hg H locs ls hl hP hD hS)
  · exact pg_s_i2 (g := fun x y => x + y) (fun x y => Int32.ofInt_add x y) (fun k => lv_iadd hx hb hd k) he hg
  · exact pg_s_i2 (g := fun x y => x - y) (fun x y => Int32.ofInt_sub x y) (fun k => lv_isub hx hb hd k) he hg
  · exact pg_s_i2 (g := fun x y => x * y) (fun x y => Int32.ofInt_mul x y) (fun k => lv_imul hx hb hd k) he hg
  · obtain ⟨x, r, h1, rfl⟩ := pg_i1_inv he
    intro H locs ls hl hP hD hS
    rw [h1]
    refine lv_ineg hx hb hd ?_
    have e1 : pg_I (-x) = -pg_I x := Int32.ofInt_neg x
    rw [← e1]
    exact hg H locs ls hl hP hD hS
  · exact pg_s_i2c (g := fun x y => x / y) (fun x y h1 h2 _ => pg_tdiv x y h1 h2) (fun h0 k => lv_idiv hx hb hd h0 k) he hL hg
  · exact pg_s_i2c (g := fun x y => x - x / y * y) (fun x y h1 h2 _ => pg_tmod x y h1 h2) (fun h0 k => lv_irem hx hb hd h0 k) he hL hg
  · exact pg_s_i2 (g := fun x y => x ^^^ y) (fun x y => pg_I_ti _) (fun k => lv_ixor hx hb hd k) he hg
  · exact pg_s_i2 (g := fun x y => x &&& y) (fun x y => pg_I_ti _) (fun k => lv_iand hx hb hd k) he hg
  · exact pg_s_i2 (g := fun x y => x ||| y) (fun x y => pg_I_ti _) (fun k => lv_ior hx hb hd k) he hg
  · exact pg_s_i2 (g := fun x y => x <<< (y &&& 31)) (fun x y => pg_I_ti _) (fun k => lv_ishl hx hb hd k) he hg
  · exact pg_s_i2 (g := fun x y => x >>> (y &&& 31)) (fun x y => pg_I_ti _) (fun k => lv_ishr hx hb hd k) he hg
  · exact pg_s_l2 (g := fun x y => x + y) (fun x y => Int64.ofInt_add x y) (fun k => lv_ladd hx hb hd k) he hg
  · exact pg_s_l2 (g := fun x y => x * y) (fun x y => Int64.ofInt_mul x y) (fun k => lv_lmul hx hb hd k) he hg
  · obtain ⟨x, r, h1, rfl⟩ := pg_l1_inv he
    intro H locs ls hl hP hD hS
    rw [h1]
    refine lv_lneg hx hb hd ?_
    have e1 : pg_J (-x) = -pg_J x := Int64.ofInt_neg x
    rw [← e1]
    exact hg H locs ls hl hP hD hS
  · obtain ⟨x, y, r, h1, ⟨h2, h3, h4⟩, rfl⟩ := pg_lrm_inv he hL
    intro H locs ls hl hP hD hS
    rw [h1]
    refine lv_lrem hx hb hd ?_ ?_
    · intro h0
      apply h2
      have h5 : (pg_J y).toInt = y := pg_J_in h4
      have h0 : pg_J y = 0 := h0
      rw [h0] at h5
      exact h5.symm
    · rw [← pg_ltmod x y h3 h4]
      exact hg H locs ls hl hP hD hS
  · obtain ⟨x, y, r, h1, ⟨h2, h3⟩, rfl⟩ := pg_lcm_inv he hL
    intro H locs ls hl hP hD hS
    rw [h1]
    refine W.lcmp hx hb hd ?_
    rw [← pg_lcmp x y h2 h3]
    exact hg H locs ls hl hP hD hS
  · obtain ⟨x, r, h1, h2, rfl⟩ := pg_i2lo_inv he hL
    intro H locs ls hl hP hD hS
    rw [h1]
    exact lv_i2l hx hb hd (pg_i2l' x h2) (hg H locs ls hl hP hD hS)
  · obtain ⟨x, r, h1, rfl⟩ := pg_l2io_inv he
    intro H locs ls hl hP hD hS
    rw [h1]
    exact lv_l2i hx hb hd (Int64.toInt32_ofInt) (hg H locs ls hl hP hD hS)
  · obtain ⟨v, r, h1, h2, rfl⟩ := pg_dup_inv he
    intro H locs ls hl hP hD hS
    rw [h1]
    exact lv_dup hx hb hd (pg_cat1 ad h2) (hg H locs ls hl hP hD hS)
  · obtain ⟨v, w, r, h1, h2, h3, rfl⟩ := pg_dup2_inv he
    intro H locs ls hl hP hD hS
    rw [h1]
    exact lv_dup2_11 hx hb hd (pg_cat1 ad h2) (pg_cat1 ad h3) (hg H locs ls hl hP hD hS)
  · obtain ⟨v, r, h1, h2, rfl⟩ := pg_pop_inv he
    intro H locs ls hl hP hD hS
    rw [h1]
    exact lv_pop hx hb hd (pg_cat1 ad h2) (hg H locs ls hl hP hD hS)
  · rename_i k n
    obtain ⟨x, h1, h2, rfl⟩ := pg_inc_inv he
    intro H locs ls hl hP hD hS
    obtain ⟨j, hj⟩ := List.getElem?_of_mem (List.mem_map.mpr ⟨(k, .inl x), pg_get_in h1, rfl⟩ : pg_cl ad (k, .inl x) ∈ st.2.1.map (pg_cl ad))
    exact lv_iinc (v := pg_I (x + n)) hx hb hd hl hj (Int32.ofInt_add x n).symm h2 rfl (fun ls' hl' => hg H locs ls' (pg_lset1 (v := .inl (x + n)) rfl hl') hP hD hS)
  · obtain ⟨t, h1, rfl⟩ := pg_gto_inv he
    intro H locs ls hl hP hD hS
    exact lv_goto hx hb hd h1 (hg H locs ls hl hP hD hS)
  · rename_i d lo hi offs
    obtain ⟨x, r, off, t, h1, h2, h3, h4, rfl⟩ := pg_sw_inv he hL
    intro H locs ls hl hP hD hS
    rw [h1]
    unfold pg_swt at h2
    cases hc : (decide (x < lo) || decide (hi < x)) with
    | true =>
      rw [hc] at h2
      cases h2
      refine lv_tableOut hx hb hd ?_ h3 (hg H locs ls hl hP hD hS)
      rw [pg_I_in h4]
      simpa using hc
    | false =>
      rw [hc] at h2
      simp only [cond_false] at h2
      rw [pg_nth_eq] at h2
      simp only [Bool.or_eq_false_iff, decide_eq_false_iff_not] at hc
      refine lv_tableIn hx hb hd (by rw [pg_I_in h4]; exact hc.1) (by rw [pg_I_in h4]; exact hc.2) ?_ h3 (hg H locs ls hl hP hD hS)
      rw [pg_I_in h4, ← Array.getElem?_toList]
      exact h2
  · obtain ⟨i, q, r, h1, h2⟩ := pg_ald_inv he hL
    intro H locs ls hl hP hD hS
    rw [h1]
    rcases h2 with ⟨n, fs, h3, -, h5, rfl⟩ | ⟨-, rfl, h5, rfl⟩ | ⟨-, rfl, h5, rfl⟩
    · have hn := pg_sh_n h3 (by decide)
      refine va_iald hx hb hK hP q 0 (pg_wd_at h3) rfl (pg_in_vp h5 hn) hd ?_
      rw [pg_clamp h5 hn]
      exact hg H locs ls hl hP hD hS
    · refine va_ti hx hb hZ.2.1.1 hS (pg_in_vp h5 (by decide)) rfl hd ?_
      rw [pg_clamp (n := 8) h5 (by decide)]
      exact hg H locs ls hl hP hD hS
    · refine va_ti hx hb hZ.2.1.2 hS (pg_in_vp h5 (by decide)) rfl hd ?_
      rw [pg_clamp (n := 12) h5 (by decide)]
      exact hg H locs ls hl hP hD hS
  · obtain ⟨i, q, r, h1, h2⟩ := pg_ald_inv he hL
    intro H locs ls hl hP hD hS
    rw [h1]
    rcases h2 with ⟨n, fs, h3, -, h5, rfl⟩ | ⟨h0, -⟩ | ⟨h0, -⟩
    · have hn := pg_sh_n h3 (by decide)
      refine va_zald hx hb hK hP q 1 (pg_wd_at h3) rfl (pg_in_vp h5 hn) hd ?_
      rw [pg_clamp h5 hn]
      exact hg H locs ls hl hP hD hS
    · cases h0
    · cases h0
  · obtain ⟨i, q, r, h1, h2⟩ := pg_ald_inv he hL
    intro H locs ls hl hP hD hS
    rw [h1]
    rcases h2 with ⟨n, fs, h3, -, h5, rfl⟩ | ⟨h0, -⟩ | ⟨h0, -⟩
    · have hn := pg_sh_n h3 (by decide)
      refine va_lald hx hb hK hP q 2 (pg_wd_at h3) rfl (pg_in_vp h5 hn) hd ?_
      rw [pg_clamp h5 hn]
      exact hg H locs ls hl hP hD hS
    · cases h0
    · cases h0
  · rcases pg_ast_inv he hL with ⟨x, i, q, r, n, fs, h1, h3, h4, h5, rfl⟩ | ⟨x, i, q, r, n, fs, h1, h3, h4, h5, rfl⟩
    · intro H locs ls hl hP hD hS
      rw [h1]
      have hn := pg_sh_n h3 (by decide)
      refine va_iast hx hb hK hP hD hS q 0 (pg_wd_at h3) rfl (pg_in_vp h5 hn) hd (fun H1 locs1 hP1 hD1 hS1 => ?_)
      rw [pg_clamp h5 hn, ← pg_upd_I] at hP1 hD1
      exact hg H1 locs1 ls hl (by rw [← pg_wd_set h3 i.toNat x]; exact hP1) (by rw [← pg_wd_set h3 i.toNat x]; exact hD1) hS1
    · cases h4
  · rcases pg_ast_inv he hL with ⟨x, i, q, r, n, fs, h1, h3, h4, h5, rfl⟩ | ⟨x, i, q, r, n, fs, h1, h3, h4, h5, rfl⟩
    · intro H locs ls hl hP hD hS
      rw [h1]
      have hn := pg_sh_n h3 (by decide)
      refine va_zast hx hb hK hP hD hS q 1 (pg_wd_at h3) rfl (pg_in_vp h5 hn) hd (fun H1 locs1 hP1 hD1 hS1 => ?_)
      have hv : vp_nar .boolean (pg_I x) = pg_I x := by
        rcases h4 with h4 | ⟨-, rfl | rfl⟩
        · cases h4
        · decide +kernel
        · decide +kernel
      rw [pg_clamp h5 hn, hv, ← pg_upd_I] at hP1 hD1
      exact hg H1 locs1 ls hl (by rw [← pg_wd_set h3 i.toNat x]; exact hP1) (by rw [← pg_wd_set h3 i.toNat x]; exact hD1) hS1
    · cases h4
  · rcases pg_ast_inv he hL with ⟨x, i, q, r, n, fs, h1, h3, h4, h5, rfl⟩ | ⟨x, i, q, r, n, fs, h1, h3, h4, h5, rfl⟩
    · rcases h4 with h4 | ⟨h4, -⟩ <;> cases h4
    · intro H locs ls hl hP hD hS
      rw [h1]
      have hn := pg_sh_n h3 (by decide)
      refine va_last hx hb hK hP hD hS q 2 (pg_wd_at h3) rfl (pg_in_vp h5 hn) hd (fun H1 locs1 hP1 hD1 hS1 => ?_)
      rw [pg_clamp h5 hn, ← pg_upd_J] at hP1 hD1
      exact hg H1 locs1 ls hl (by rw [← pg_wd_set h3 i.toNat x]; exact hP1) (by rw [← pg_wd_set h3 i.toNat x]; exact hD1) hS1
  · obtain ⟨q, r, h1, h2⟩ := pg_aln_inv he
    intro H locs ls hl hP hD hS
    rw [h1]
    rcases h2 with ⟨k, n, fs, h3, h4, rfl⟩ | ⟨rfl, rfl⟩ | ⟨rfl, rfl⟩
    · have e1 : Int32.ofNat n = pg_I (n : Int) := Int32.ofInt_eq_ofNat.symm
      rcases (show k = 0 ∨ k = 1 ∨ k = 2 by omega) with rfl | rfl | rfl
      · exact va_alen hx hb hK hP q 0 (pg_wd_at h3) (ty := .int) rfl e1 hd (hg H locs ls hl hP hD hS)
      · exact va_alen hx hb hK hP q 1 (pg_wd_at h3) (ty := .boolean) rfl e1 hd (hg H locs ls hl hP hD hS)
      · exact va_alen hx hb hK hP q 2 (pg_wd_at h3) (ty := .long) rfl e1 hd (hg H locs ls hl hP hD hS)
    · exact va_tlen hx hb hZ.2.1.1 hS rfl hd (hg H locs ls hl hP hD hS)
    · exact va_tlen hx hb hZ.2.1.2 hS rfl hd (hg H locs ls hl hP hD hS)
  · rename_i ix
    obtain ⟨ci, k, q, r, fs, c0, h1, h2, h3, h4, rfl⟩ := pg_gf_inv he
    intro H locs ls hl hP hD hS
    rw [h2]
    obtain ⟨C, T, N, ty, f1, f2, f3, f4, f5, f6, f7⟩ := pg_FTok _ _ (pg_look_in h1)
    refine va_get (D := D) (ci := ci) (v := pg_fw ad c0 (st.2.2.2 q k)) hx hb hts f2 hown hK hP q (pg_wd_at h3) f1 k f5 (hts _ f6) (fun x h => by rw [f7] at h; exact h) ?_ hd ?_
    · rw [List.getElem?_mapIdx, h4]; rfl
    · rw [← pg_cv_fv]
      exact hg H locs ls hl hP hD hS
  · rename_i ix
    obtain ⟨ci, k, q, r, fs, c0, x, h1, h2, hc, hx1, h3, h4, rfl⟩ := pg_pf_inv he hL
    intro H locs ls hl hP hD hS
    rw [h2]
    obtain ⟨C, T, N, ty, f1, f2, f3, f4, f5, f6, f7⟩ := pg_FTok _ _ (pg_look_in h1)
    obtain ⟨g1, g2⟩ := pg_sh_f h3 f1 h4 hc
    obtain ⟨n1, n2⟩ := pg_nar (ad := ad) hc hx1
    have hlen : k < (fs.mapIdx (fun j c => pg_fw ad c (st.2.2.2 q j))).length := by
      rw [List.length_mapIdx]
      exact (List.getElem?_eq_some_iff.mp h4).1
    rw [List.map_cons, pg_cv_fv]
    refine va_put (D := D) (ci := ci) (v := pg_fw ad c0 x) (ty := pg_tyOf c0) hx hb hts f2 ty f3 f4 hown hK hP hD hS q (pg_wd_at h3) f1 k f5 (hts _ f6) (fun x h => by rw [f7] at h; exact h) g2 g1 n1 n2 hlen hd (fun H1 locs1 hP1 hD1 hS1 => ?_)
    rw [pg_fs_set st.2.2.2 q x h4 hc] at hP1 hD1
    exact hg H1 locs1 ls hl (by rw [← pg_wd_set h3 k x]; exact hP1) (by rw [← pg_wd_set h3 k x]; exact hD1) hS1
  · rename_i ix
    obtain ⟨q, h1, rfl⟩ := pg_gs_inv he
    intro H locs ls hl hP hD hS
    have h2 := pg_look_in h1
    have ho : M.2.2.2.2.1 = 2 ∧ (q = 1000 ∨ q = 1001) := by
      generalize M.2.2.2.2.1 = o at h2
      unfold pg_ST at h2
      split at h2
      · simp at h2
        omega
      · cases h2
    rw [ho.1] at h2 hown
    have hN := hZ.2.2 _ h2
    rcases ho.2 with rfl | rfl
    · exact va_getsN hx hb hZ.1.1 hS hown (va_Nw.use rfl hN) (fun x h => h) hd (hg H locs ls hl hP hD hS)
    · exact va_getsN hx hb hZ.1.2 hS hown (va_Nw.use rfl hN) (fun x h => h) hd (hg H locs ls hl hP hD hS)
  · cases he
end PGR
