/-! the law's start; by program -/
section START
variable {p : Program} {l : Launch} {e : Env} {s : State} {m : MethodId} {b : Nat} {below : List Frame} {meth : Method} {c : Code} {K : pg_K3} {D : va_G} {t0 t1 : Nat} {L : Nat} {xs : Nat → Int32} {Q : State → Prop} {args : Array Value}
theorem ls_arr {ty : FieldType} (h : (Cond.arrayClass ty).before args s = true) : ∃ c : ClassId, ArrOfT s c ty ∧ s.vm.findClass ("[" ++ ty.toString) = some c := by
  obtain ⟨c, k, comp, h1, h2, h3⟩ := Cond.arrayClass_spec h
  exact ⟨c, fun n z => ⟨fun k h => (by cases h), k, h2, comp, h3⟩, h1⟩
set_option maxRecDepth 100000 in
theorem ls_K (hts : ∀ w ∈ pg_tb, w.before args s = true) : ∃ (K : pg_K3) (D : va_G), va_K D pgCl (pg_tys K) s := by
  obtain ⟨k1, a1, b1⟩ := ls_arr (hts (.arrayClass .int) (pg_tb_in 108 rfl rfl))
  obtain ⟨k2, a2, b2⟩ := ls_arr (hts (.arrayClass .boolean) (pg_tb_in 107 rfl rfl))
  obtain ⟨k3, a3, b3⟩ := ls_arr (hts (.arrayClass .long) (pg_tb_in 933 rfl rfl))
  have hk : ∀ c : Nat, ∃ x : ClassId × (Nat → Nat), ∀ q : vw_C, pgCl[c]? = some q → u_Kn s q.1 q.2.1 q.2.2 x.1 x.2 := by
    intro c
    match c with
    | 0 =>
      obtain ⟨cC, iS, h⟩ := u_known (C := pgR0) (T := pgT0) (N := 7) hts pgV0 (hts (.instantiable pgR0 7) (pg_tb_in 81 rfl rfl))
      exact ⟨(cC, iS), fun q hq => by cases hq; exact h⟩
    | 1 =>
      obtain ⟨cC, iS, h⟩ := u_known (C := pgR1) (T := pgT1) (N := 3) hts pgV1 (hts (.instantiable pgR1 3) (pg_tb_in 89 rfl rfl))
      exact ⟨(cC, iS), fun q hq => by cases hq; exact h⟩
    | 2 =>
      obtain ⟨cC, iS, h⟩ := u_known (C := pgR2) (T := pgT2) (N := 4) hts pgV2 (hts (.instantiable pgR2 4) (pg_tb_in 110 rfl rfl))
      exact ⟨(cC, iS), fun q hq => by cases hq; exact h⟩
    | 3 =>
      obtain ⟨cC, iS, h⟩ := u_known (C := pgR3) (T := pgT3) (N := 4) hts pgV3 (hts (.instantiable pgR3 4) (pg_tb_in 137 rfl rfl))
      exact ⟨(cC, iS), fun q hq => by cases hq; exact h⟩
    | 4 =>
      obtain ⟨cC, iS, h⟩ := u_known (C := pgR4) (T := pgT4) (N := 10) hts pgV4 (hts (.instantiable pgR4 10) (pg_tb_in 161 rfl rfl))
      exact ⟨(cC, iS), fun q hq => by cases hq; exact h⟩
    | 5 =>
      obtain ⟨cC, iS, h⟩ := u_known (C := pgR5) (T := pgT5) (N := 5) hts pgV5 (hts (.instantiable pgR5 5) (pg_tb_in 215 rfl rfl))
      exact ⟨(cC, iS), fun q hq => by cases hq; exact h⟩
    | 6 =>
      obtain ⟨cC, iS, h⟩ := u_known (C := pgR6) (T := pgT6) (N := 12) hts pgV6 (hts (.instantiable pgR6 12) (pg_tb_in 238 rfl rfl))
      exact ⟨(cC, iS), fun q hq => by cases hq; exact h⟩
    | 7 =>
      obtain ⟨cC, iS, h⟩ := u_known (C := pgR7) (T := pgT7) (N := 7) hts pgV7 (hts (.instantiable pgR7 7) (pg_tb_in 287 rfl rfl))
      exact ⟨(cC, iS), fun q hq => by cases hq; exact h⟩
    | 8 =>
      obtain ⟨cC, iS, h⟩ := u_known (C := pgR8) (T := pgT8) (N := 5) hts pgV8 (hts (.instantiable pgR8 5) (pg_tb_in 316 rfl rfl))
      exact ⟨(cC, iS), fun q hq => by cases hq; exact h⟩
    | 9 =>
      obtain ⟨cC, iS, h⟩ := u_known (C := pgR9) (T := pgT9) (N := 30) hts pgV9 (hts (.instantiable pgR9 30) (pg_tb_in 825 rfl rfl))
      exact ⟨(cC, iS), fun q hq => by cases hq; exact h⟩
    | n + 10 => exact ⟨(k1, fun _ => 0), fun q hq => absurd (show n + 10 < 10 from (List.getElem?_eq_some_iff.mp hq).1) (by omega)⟩
  refine ⟨(k1, k2, k3), (fun c => (Classical.choose (hk c)).1, fun c => (Classical.choose (hk c)).2), fun c q hq => Classical.choose_spec (hk c) q hq, ?_⟩
  intro k q hq
  match k, hq with
  | 0, hq => cases hq; exact ⟨a1, b1⟩
  | 1, hq => cases hq; exact ⟨a2, b2⟩
  | 2, hq => cases hq; exact ⟨a3, b3⟩
  | n + 3, hq => exact absurd (show n + 3 < 3 from (List.getElem?_eq_some_iff.mp hq).1) (by omega)
set_option maxRecDepth 100000 in
theorem ls_Stx (hlt : ∀ w ∈ lw_tbl, w.before args s = true) (hg : (Jvm.Cond.and given_1 narrow_1).before args s = true) : ∃ t0 t1 : Nat, pg_Stx (ki_ad t0 t1 []) (lp_A s) s := by
  have hs := flat_of_before _ hg
  have hA : ∀ a : Nat, a < s.heap.size → ¬ lp_A s a := fun a h1 h2 => absurd h1 (Nat.not_lt.mpr h2)
  have k0 : ∀ j : Nat, j < 8 → Cond.eq (.elem (.static "PlaneGroups" "SQUARE_AXES" "[I") (.int (Int32.ofNat j))) (.int (pg_I (pg_sq j))) ∈ flatC (Jvm.Cond.and given_1 narrow_1) := by decide +kernel
  have k1 : ∀ j : Nat, j < 12 → Cond.eq (.elem (.static "PlaneGroups" "TRIANGLE_AXES" "[I") (.int (Int32.ofNat j))) (.int (pg_I (pg_tq j))) ∈ flatC (Jvm.Cond.and given_1 narrow_1) := by decide +kernel
  have n0 : Cond.eq (.length (.static "PlaneGroups" "SQUARE_AXES" "[I")) (.int (Int32.ofNat 8)) ∈ flatC (Jvm.Cond.and given_1 narrow_1) := by decide +kernel
  have n1 : Cond.eq (.length (.static "PlaneGroups" "TRIANGLE_AXES" "[I")) (.int (Int32.ofNat 12)) ∈ flatC (Jvm.Cond.and given_1 narrow_1) := by decide +kernel
  have o0 : Cond.arrayOf (.static "PlaneGroups" "SQUARE_AXES" "[I") .int ∈ flatC (Jvm.Cond.and given_1 narrow_1) := by decide +kernel
  have o1 : Cond.arrayOf (.static "PlaneGroups" "TRIANGLE_AXES" "[I") .int ∈ flatC (Jvm.Cond.and given_1 narrow_1) := by decide +kernel
  obtain ⟨t0, e0, T0⟩ := va_Tof (f := fun j => .int (pg_I (pg_sq j))) (A := lp_A s) (by decide) (hs _ o0) (va_eqt (hs _ n0)) (fun j hj => va_eqt (hs _ (k0 j hj))) hA
  obtain ⟨t1, e1, T1⟩ := va_Tof (f := fun j => .int (pg_I (pg_tq j))) (A := lp_A s) (by decide) (hs _ o1) (va_eqt (hs _ n1)) (fun j hj => va_eqt (hs _ (k1 j hj))) hA
  have hi : (Cond.initialized "PlaneGroups").before args s = true := hlt (.initialized pgR0) (List.mem_of_getElem? (i := 69) rfl)
  refine ⟨t0, t1, ⟨va_Zof (hlt (.laysStatic "PlaneGroups" "SQUARE_AXES" "[I") (List.mem_of_getElem? (i := 550) rfl)) hi e0 hA, va_Zof (hlt (.laysStatic "PlaneGroups" "TRIANGLE_AXES" "[I") (List.mem_of_getElem? (i := 552) rfl)) hi e1 hA⟩, ⟨T0, T1⟩, ?_⟩
  intro e he
  rcases List.mem_cons.mp he with rfl | he
  · exact va_Nw.of rfl (hlt (.fieldLinkNest pgR2 58 "PlaneGroups" "SQUARE_AXES" "[I" "PlaneGroups") (List.mem_of_getElem? (i := 549) rfl))
  rcases List.mem_cons.mp he with rfl | he
  · exact va_Nw.of rfl (hlt (.fieldLinkNest pgR2 61 "PlaneGroups" "TRIANGLE_AXES" "[I" "PlaneGroups") (List.mem_of_getElem? (i := 551) rfl))
  · cases he
theorem ls_Pl {w1 w2 : va_W} {H : Heap} (h : va_P D pgCl (w1 ++ w2) H) : va_P D pgCl w1 H := fun k q hk => h k q (by rw [List.getElem?_append_left (List.getElem?_eq_some_iff.mp hk).1]; exact hk)
theorem ls_r {w1 w2 : va_W} {k : Nat} {q : Nat × va_E} (hk : w2[k]? = some q) : (w1 ++ w2)[w1.length + k]? = some q := by
  rw [List.getElem?_append_right (by omega), Nat.add_sub_cancel_left]
  exact hk
theorem ls_l {w1 w2 : va_W} {k : Nat} {q : Nat × va_E} (hk : w1[k]? = some q) : (w1 ++ w2)[k]? = some q := by
  rw [List.getElem?_append_left (List.getElem?_eq_some_iff.mp hk).1]
  exact hk
theorem ls_Pr {w1 w2 : va_W} {H : Heap} (h : va_P D pgCl (w1 ++ w2) H) : va_P D pgCl w2 H := fun _ q hk => h _ q (ls_r hk)
theorem ls_Dl {A : Nat → Prop} {w1 w2 : va_W} (h : va_D A (w1 ++ w2)) : va_D A w1 := ⟨fun i j _ _ h1 h2 he => h.1 i j _ _ (ls_l h1) (ls_l h2) he, fun _ _ hk => h.2 _ _ (ls_l hk)⟩
theorem ls_Dr {A : Nat → Prop} {w1 w2 : va_W} (h : va_D A (w1 ++ w2)) : va_D A w2 := ⟨fun i j _ _ h1 h2 he => by have := h.1 _ _ _ _ (ls_r h1) (ls_r h2) he; omega, fun _ _ hk => h.2 _ _ (ls_r hk)⟩
theorem ls_ap {A : Nat → Prop} {w1 w2 : va_W} (h : va_D A (w1 ++ w2)) : pg_ap w1 w2 := fun i j x y h1 h2 he => by
  have := h.1 _ _ _ _ (ls_l h1) (ls_r h2) he
  have := (List.getElem?_eq_some_iff.mp h1).1
  omega
theorem ls_ap2 {w1 w2 w0 : va_W} {H : Heap} (hP : va_P D pgCl w1 H) (hap : pg_ap w1 w0) (hD : va_D (va_A w0 H.size) w2) : pg_ap w1 w2 := fun i j x y h1 h2 he => by
  rcases hD.2 j y h2 with ⟨k, e, hk⟩ | h
  · exact hap i k x (y.1, e) h1 hk he
  · have := (hP i x h1).lt
    omega
set_option maxHeartbeats 4000000 in
set_option maxRecDepth 100000 in
/-- from the law's entry to its loop, and through it -/
theorem ls_start (C : lp_S p s m c b K D t0 t1 L xs) (hn1 : va_Nw (.methodLinkNest pgR0 9 ki_y1 "PlaneGroups") s) (hn2 : va_Nw (.methodLinkNest pgR0 12 ki_y2 "PlaneGroups") s) (hend : ∀ (H : Heap) (locs : List Loc) (ls : Array Slot), va_S (lp_A s) s.heap H locs → W p l e room_1 s m #[Value.ref b] below meth c H locs 42 50974 Q (F0 m 964 ls [])) : W p l e room_1 s m #[Value.ref b] below meth c s.heap [] 0 0 Q (entryFrame m ([Value.ref b] : List Value).toArray 4) := by
  have C' := C
  obtain ⟨hx, hb, hml, hown, hts, hK, hZ, hX, hbl, hL⟩ := C'
  have hown : s.vm.findClass pgR11 = some m.cls := hown
  have hA : ∀ q : Nat, s.heap.size ≤ q → lp_A s q := fun q h => h
  have hS : va_S (lp_A s) s.heap s.heap [] := va_S.rf
  have hl := lv_entry ([.ref b]) (n := 4) (Nat.le_of_ble_eq_true rfl)
  rw [lg_entry_eq]
  generalize (lg_sl ([.ref b]) ++ List.replicate (4 - (lg_sl ([.ref b])).length) Slot.unset).toArray = ls at hl ⊢
  have hl : lv_has ls 4 [(0, .ref b)] := hl
  have hP : va_P D pgCl [] s.heap := fun k q h => by simp at h
  have hD : va_D (lp_A s) [] := ⟨fun i j p q h => by simp at h, fun k q h => by simp at h⟩
  have hc_ : 0 + 1 ≤ 42 := by omega
  have hs_ : 0 + 7 ≤ 50974 := by omega
  refine va_new (D := D) (ci := 0) (fs := [.null, .null, .null, .null, .null, .null, .null]) (C := pgR0) (T := pgT0) (N := 7) hx hb hts pgV0 pgY0 pgY0_ok hown (hts (.classLink pgR11 7 pgR0) (pg_tb_in 80 rfl rfl)) (hts (.instantiable pgR0 7) (pg_tb_in 81 rfl rfl)) (hts (.initialized pgR0) (pg_tb_in 69 rfl rfl)) hK hP hD hS hA rfl (by decide +kernel) hc_ hs_ (by decide +kernel : decode code 0 = .ok (.new 7, 3)) (fun q1 H hP hD hS => ?_)
  have hP : va_P D pgCl [(q1, .inr (0, [.null, .null, .null, .null, .null, .null, .null]))] H := hP
  have hD : va_D (lp_A s) [(q1, .inr (0, [.null, .null, .null, .null, .null, .null, .null]))] := hD
  refine W.widen (k := 1) (n := 7) (by omega) (by omega) ?_
  refine lv_dup hx hb (by decide +kernel : decode code 3 = .ok (.dup, 1)) rfl ?_
  have hFc := va_free (wc := [(q1, .inr (0, [.null, .null, .null, .null, .null, .null, .null]))]) hD hS hA [0] rfl
  have hc_ : 1 + 21 ≤ 42 := by omega
  have hs_ : 7 + 10829 ≤ 50974 := by omega
  refine va_callv (va_runI (As := []) (rest := [.ref q1]) ⟨hx, hb, hml, hown, hts⟩ (ki_P l K D t0 t1 q1 H.size) (cwI 0 hts (pg_goodC (pg_tb_in 84 rfl rfl)) rfl rfl rfl (hts (.initialized pgR0) (pg_tb_in 69 rfl rfl)) (hts (.methodLink pgR11 9 ki_y0) (pg_tb_in 82 rfl rfl)) (hts (.instanceMethod ki_y0) (pg_tb_in 83 rfl rfl)) rfl (by decide +kernel) ⟨Nat.le_of_ble_eq_true rfl, Nat.le_of_ble_eq_true rfl⟩) ⟨fun a U g mk q => by obtain ⟨z0, z1, zP, zK, zD, zZ, y1, y2⟩ := q; exact ⟨z0, z1, zP, va_K.moved (u := U) (U := U.calling g mk a) (Vm.Alike.refl U.vm) zK, zD, pg_Stx_moved (u := U) (U := U.calling g mk a) (Vm.Alike.refl U.vm) (fun e he => va_Nw.same rfl (u := U) rfl (zZ.2.2 e he)) (fun _ h => h) (fun _ _ _ => rfl) zZ, va_Nw.same rfl (u := U) rfl y1, va_Nw.same rfl (u := U) rfl y2⟩, fun U hU hW => ⟨rfl, by rw [hU], by rw [hU]; exact hP, va_K.moved hW.alike hK, hD.weaken (fun _ _ _ _ => trivial), pg_Stx_moved hW.alike (fun e he => va_Nw.warmF hW (hZ.2.2 e he)) hFc (fun a h1 h2 => by rw [hU]; exact hS.2.1 a h1 h2) hZ, va_Nw.warmM hW hn1, va_Nw.warmM hW hn2⟩⟩ rfl rfl hl.1 rfl (lv_room (Nat.le_of_ble_eq_true rfl)) (by decide +kernel : decode code 4 = .ok (.invokespecial 9, 3)) ⟨hc_, hs_⟩) hS (fun q _ h => hFc q h) hFc (fun u t H1 locs ht hvm hw hB hz1 hk1 hS => ?_)
  obtain ⟨L1, h, hL1, i1, i2, i3, hP1, hD1⟩ := hB
  rw [ht] at hP1
  have hD1 := hD1.weaken (B := lp_A s) (fun _ _ _ h => hFc _ h)
  clear hP hD hFc hk1 hz1 ht hvm
  refine W.widen (k := 22) (n := 10836) (by omega) (by omega) ?_
  refine lv_astore_n hx hb (by decide +kernel : decode code 7 = .ok (.astore_n 1, 1)) rfl hl (by decide) rfl (fun ls hl => ?_)
  have hl : lv_has ls 4 [(1, .ref q1), (0, .ref b)] := hl
  have hc_ : 22 + 1 ≤ 42 := by omega
  have hs_ : 10836 + 30 ≤ 50974 := by omega
  refine va_new (D := D) (ci := 9) (fs := [.int (pg_I 0), .int (pg_I 0), .null, .int (pg_I 0), .null, .null, .int (pg_I 0), .int (pg_I 0), .int (pg_I 0), .null, .null, .null, .null, .int (pg_I 0), .null, .long (pg_J 0), .long (pg_J 0), .null, .null, .null, .null, .null, .null, .long (pg_J 0), .long (pg_J 0), .null, .null, .null, .null, .null]) (C := pgR9) (T := pgT9) (N := 30) hx hb hts pgV9 pgY9 pgY9_ok hown (hts (.classLink pgR11 10 pgR9) (pg_tb_in 824 rfl rfl)) (hts (.instantiable pgR9 30) (pg_tb_in 825 rfl rfl)) (hts (.initialized pgR9) (pg_tb_in 78 rfl rfl)) hK hP1 hD1 hS hA rfl (by decide +kernel) hc_ hs_ (by decide +kernel : decode code 8 = .ok (.new 10, 3)) (fun q2 H hP hD hS => ?_)
  have hap := ls_ap hD
  have hP1 := ls_Pl hP
  have hP := ls_Pr hP
  have hD := ls_Dr hD
  refine W.widen (k := 23) (n := 10866) (by omega) (by omega) ?_
  refine lv_dup hx hb (by decide +kernel : decode code 11 = .ok (.dup, 1)) rfl ?_
  have hFc := va_free (wc := [(q2, .inr (9, [.int (pg_I 0), .int (pg_I 0), .null, .int (pg_I 0), .null, .null, .int (pg_I 0), .int (pg_I 0), .int (pg_I 0), .null, .null, .null, .null, .int (pg_I 0), .null, .long (pg_J 0), .long (pg_J 0), .null, .null, .null, .null, .null, .null, .long (pg_J 0), .long (pg_J 0), .null, .null, .null, .null, .null]))]) hD hS hA [0] rfl
  have hc_ : 23 + 19 ≤ 42 := by omega
  have hs_ : 10866 + 40108 ≤ 50974 := by omega
  refine va_callv (va_runI (As := []) (rest := [.ref q2]) ⟨hx, hb, hml, hown, hts⟩ (ki_X l K D t0 t1 q2 H.size) (cwI 0 hts (pg_goodC (pg_tb_in 828 rfl rfl)) rfl rfl rfl (hts (.initialized pgR9) (pg_tb_in 78 rfl rfl)) (hts (.methodLink pgR11 12 ki_y9) (pg_tb_in 826 rfl rfl)) (hts (.instanceMethod ki_y9) (pg_tb_in 827 rfl rfl)) rfl (by decide +kernel) ⟨Nat.le_of_ble_eq_true rfl, Nat.le_of_ble_eq_true rfl⟩) ⟨fun a U g mk q => by obtain ⟨z0, z1, zP, zK, zD, zZ⟩ := q; exact ⟨z0, z1, zP, va_K.moved (u := U) (U := U.calling g mk a) (Vm.Alike.refl U.vm) zK, zD, pg_Stx_moved (u := U) (U := U.calling g mk a) (Vm.Alike.refl U.vm) (fun e he => va_Nw.same rfl (u := U) rfl (zZ.2.2 e he)) (fun _ h => h) (fun _ _ _ => rfl) zZ⟩, fun U hU hW => ⟨rfl, by rw [hU], by rw [hU]; exact hP, va_K.moved hW.alike hK, hD.weaken (fun _ _ _ _ => trivial), pg_Stx_moved hW.alike (fun e he => va_Nw.warmF hW (hZ.2.2 e he)) hFc (fun a h1 h2 => by rw [hU]; exact hS.2.1 a h1 h2) hZ⟩⟩ rfl rfl hl.1 rfl (lv_room (Nat.le_of_ble_eq_true rfl)) (by decide +kernel : decode code 12 = .ok (.invokespecial 12, 3)) ⟨hc_, hs_⟩) hS (fun q _ h => hFc q h) hFc (fun u t H1 locs ht hvm hw hB hz1 hk1 hS => ?_)
  obtain ⟨L2, g, hL2, g1, g2, g3, g7, g8, hP2, hD2⟩ := hB
  rw [ht] at hP2
  have hap2 := ls_ap2 hP1 hap hD2
  have hP1 := pg_kept hP1 hap hk1
  have hD2 := hD2.weaken (B := lp_A s) (fun _ _ _ h => hFc _ h)
  refine W.widen (k := 42) (n := 50974) (by omega) (by omega) ?_
  refine lv_astore_n hx hb (by decide +kernel : decode code 15 = .ok (.astore_n 2, 1)) rfl hl (by decide) rfl (fun ls hl => ?_)
  have hl : lv_has ls 4 [(2, .ref q2), (1, .ref q1), (0, .ref b)] := hl
  refine lv_iconst (v := pg_I ((0 : Nat) : Int)) hx hb (by decide +kernel : decode code 16 = .ok (.iconst 0, 1)) rfl ?_
  refine lv_istore_n hx hb (by decide +kernel : decode code 17 = .ok (.istore_n 3, 1)) rfl hl (by decide) rfl (fun ls hl => ?_)
  have hl : lp_L b (ki_ad t0 t1 L1 0) (ki_ad t0 t1 L2 0) 0 ls := by
    subst hL1
    subst hL2
    exact hl
  exact lp_loop C hend (L / 8 + 1) 0 H1 locs ls h (rm g 0 1) (Nat.zero_le _) (by omega) ⟨g, 0, 1, rfl, ki_jn i1 i2 i3 g1 g2 g3 g7 g8⟩ ⟨⟨hP1, hD1⟩, ⟨hP2, hD2⟩, hap2, hS⟩ hl
end START
