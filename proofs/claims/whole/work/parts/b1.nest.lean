/-! the constructors of the nested classes; by program -/
def ki_y1 : MethodName := ⟨pgR1, "<init>", "()V"⟩
set_option maxHeartbeats 4000000 in
set_option maxRecDepth 100000 in
theorem ki_R (l : Launch) (K : pg_K3) (D : va_G) (a0 sz : Nat) : Met l ki_y1 (Cond.code ki_y1 prog_7_method_1_code 1 none :: pg_tb) { frames := 1, cells := 2, slots := 10368, locals := 20 } (va_Pc [.ref a0] (fun U => U.heap.size = sz ∧ va_P D pgCl [(a0, .inr (1, [.null, .null, .int (pg_I 0)]))] U.heap ∧ va_K D pgCl (pg_tys K) U ∧ va_D (fun _ => True) [(a0, .inr (1, [.null, .null, .int (pg_I 0)]))])) (va_Qv (fun _ : Unit => True) (fun _ t => ∃ q1 q2 : Nat, va_P D pgCl [(a0, .inr (1, [.ref q1, .ref q2, .int (pg_I 0)])), (q1, .inl (K.2.1, 5184, .inl (fun _ => pg_I 0))), (q2, .inl (K.1, 5184, .inl (fun _ => pg_I 0)))] t.heap ∧ va_D (va_A [(a0, .inr (1, [.null, .null, .int (pg_I 0)]))] sz) [(a0, .inr (1, [.ref q1, .ref q2, .int (pg_I 0)])), (q1, .inl (K.2.1, 5184, .inl (fun _ => pg_I 0))), (q2, .inl (K.1, 5184, .inl (fun _ => pg_I 0)))]) (va_A [(a0, .inr (1, [.null, .null, .int (pg_I 0)]))] sz)) 2 10368 (va_A [(a0, .inr (1, [.null, .null, .int (pg_I 0)]))] sz) := by
  refine pg_ofW (cc := prog_7_method_1_code) (maxL := 1) (ret := none) (by decide +kernel) rfl ?_
  intro p e s m args below meth c s₁ B hml hv
  show W p l e { frames := 1, cells := 2, slots := 10368, locals := 20 } s m args below meth c s.heap [] 0 0 _ _
  obtain ⟨rfl, hsz, hP, hK, hD0⟩ := hv
  have hx := B.exec
  have hb := B.bytes
  have hr := B.returns
  have hts0 := atoms_spec (ws := Cond.code ki_y1 prog_7_method_1_code 1 none :: pg_tb) B.pre
  have hts : ∀ w ∈ pg_tb, w.before _ s = true := fun w hw => hts0 w (List.mem_cons_of_mem _ hw)
  have hown : s.vm.findClass pgR1 = some m.cls := findClass_of_methodNamed B.named
  have hlocks := B.notSynchronized
  have hin : meth.name = "<init>" := (name_of_methodNamed B.named B.method).1
  subst hsz
  have hD := hD0.self (sz := s.heap.size)
  generalize hAe : va_A [(a0, .inr (1, [.null, .null, .int (pg_I 0)]))] s.heap.size = A at hD ⊢
  have hA : ∀ q : Nat, s.heap.size ≤ q → A q := fun q h => by rw [← hAe]; exact Or.inr h
  have hS : va_S A s.heap s.heap [] := va_S.rf
  have hl := lv_entry ([.ref a0]) (n := 1) (Nat.le_of_ble_eq_true rfl)
  rw [lg_entry_eq]
  generalize (lg_sl ([.ref a0]) ++ List.replicate (1 - (lg_sl ([.ref a0])).length) Slot.unset).toArray = ls at hl ⊢
  have hl : lv_has ls 1 [(0, .ref a0)] := hl
  have hP : va_P D pgCl [(a0, .inr (1, [.null, .null, .int (pg_I 0)]))] s.heap := hP
  refine lv_aload_n hx hb (by decide +kernel : decode prog_7_method_1_code 0 = .ok (.aload_n 0, 1)) rfl (lv_at hl 0 rfl) ?_
  refine W.objInit hx hb hown (hts (.methodLink pgR1 3 objectInit) (pg_tb_in 93 rfl rfl)) (hts (.instanceMethod objectInit) (pg_tb_in 86 rfl rfl)) (hts _ (pg_tb_in 87 rfl rfl)) rfl (by rw [hml]; exact hl.1) rfl (by decide +kernel : decode prog_7_method_1_code 1 = .ok (.invokespecial 3, 3)) (Nat.le_of_ble_eq_true rfl) (Nat.le_of_ble_eq_true rfl) ?_
  refine W.eq (g2 := F0 m 4 ls []) rfl ?_
  refine lv_aload_n hx hb (by decide +kernel : decode prog_7_method_1_code 4 = .ok (.aload_n 0, 1)) rfl (lv_at hl 0 rfl) ?_
  refine lv_sipush (v := pg_I 5184) hx hb (by decide +kernel : decode prog_7_method_1_code 5 = .ok (.sipush 5184, 3)) (pg_si 5184 (by decide) (by decide)) ?_
  have hc_ : 0 + 1 ≤ 2 := by omega
  have hs_ : 0 + 5184 ≤ 10368 := by omega
  refine pg_newa (D := D) (atype := .boolean) (cA := K.2.1) (N' := 5184) (a0 := (5184, .inl (fun _ => pg_I 0))) (ty := .boolean) hx hb (hts (.arrayClass .boolean) (pg_tb_in 107 rfl rfl)) rfl (hK.2 1 _ rfl).2 hP hD hS hA rfl (by decide +kernel) (by decide +kernel) (by decide +kernel) hc_ hs_ (by decide +kernel : decode prog_7_method_1_code 8 = .ok (.newarray .boolean, 2)) (fun q1 H hP hD hS => ?_)
  have hP : va_P D pgCl [(a0, .inr (1, [.null, .null, .int (pg_I 0)])), (q1, .inl (K.2.1, 5184, .inl (fun _ => pg_I 0)))] H := hP
  have hD : va_D A [(a0, .inr (1, [.null, .null, .int (pg_I 0)])), (q1, .inl (K.2.1, 5184, .inl (fun _ => pg_I 0)))] := hD
  refine W.widen (k := 1) (n := 5184) (by omega) (by omega) ?_
  refine va_putF (D := D) (ci := 1) (v := .ref q1) (ty := .array .boolean) (C := pgR1) (T := pgT1) (N := 3) hx hb hts pgV1 pgY1 pgY1_ok pgN1 hown hK hP hD hS 0 rfl rfl 0 (by decide) (hts (.fieldLink pgR1 9 pgR1 "seen" "[Z") (pg_tb_in 94 rfl rfl)) (fun _ h9 => h9) rfl hin rfl (by decide +kernel) rfl rfl (Nat.le_of_ble_eq_true rfl) (by decide +kernel : decode prog_7_method_1_code 10 = .ok (.putfield 9, 3)) (fun H locs hP hD hS => ?_)
  have hP : va_P D pgCl [(a0, .inr (1, [.ref q1, .null, .int (pg_I 0)])), (q1, .inl (K.2.1, 5184, .inl (fun _ => pg_I 0)))] H := hP
  have hD : va_D A [(a0, .inr (1, [.ref q1, .null, .int (pg_I 0)])), (q1, .inl (K.2.1, 5184, .inl (fun _ => pg_I 0)))] := hD
  refine lv_aload_n hx hb (by decide +kernel : decode prog_7_method_1_code 13 = .ok (.aload_n 0, 1)) rfl (lv_at hl 0 rfl) ?_
  refine lv_sipush (v := pg_I 5184) hx hb (by decide +kernel : decode prog_7_method_1_code 14 = .ok (.sipush 5184, 3)) (pg_si 5184 (by decide) (by decide)) ?_
  have hc_ : 1 + 1 ≤ 2 := by omega
  have hs_ : 5184 + 5184 ≤ 10368 := by omega
  refine pg_newa (D := D) (atype := .int) (cA := K.1) (N' := 5184) (a0 := (5184, .inl (fun _ => pg_I 0))) (ty := .int) hx hb (hts (.arrayClass .int) (pg_tb_in 108 rfl rfl)) rfl (hK.2 0 _ rfl).2 hP hD hS hA rfl (by decide +kernel) (by decide +kernel) (by decide +kernel) hc_ hs_ (by decide +kernel : decode prog_7_method_1_code 17 = .ok (.newarray .int, 2)) (fun q2 H hP hD hS => ?_)
  have hP : va_P D pgCl [(a0, .inr (1, [.ref q1, .null, .int (pg_I 0)])), (q1, .inl (K.2.1, 5184, .inl (fun _ => pg_I 0))), (q2, .inl (K.1, 5184, .inl (fun _ => pg_I 0)))] H := hP
  have hD : va_D A [(a0, .inr (1, [.ref q1, .null, .int (pg_I 0)])), (q1, .inl (K.2.1, 5184, .inl (fun _ => pg_I 0))), (q2, .inl (K.1, 5184, .inl (fun _ => pg_I 0)))] := hD
  refine W.widen (k := 2) (n := 10368) (by omega) (by omega) ?_
  refine va_putF (D := D) (ci := 1) (v := .ref q2) (ty := .array .int) (C := pgR1) (T := pgT1) (N := 3) hx hb hts pgV1 pgY1 pgY1_ok pgN1 hown hK hP hD hS 0 rfl rfl 1 (by decide) (hts (.fieldLink pgR1 15 pgR1 "order" "[I") (pg_tb_in 95 rfl rfl)) (fun _ h9 => h9) rfl hin rfl (by decide +kernel) rfl rfl (Nat.le_of_ble_eq_true rfl) (by decide +kernel : decode prog_7_method_1_code 19 = .ok (.putfield 15, 3)) (fun H locs hP hD hS => ?_)
  have hP : va_P D pgCl [(a0, .inr (1, [.ref q1, .ref q2, .int (pg_I 0)])), (q1, .inl (K.2.1, 5184, .inl (fun _ => pg_I 0))), (q2, .inl (K.1, 5184, .inl (fun _ => pg_I 0)))] H := hP
  have hD : va_D A [(a0, .inr (1, [.ref q1, .ref q2, .int (pg_I 0)])), (q1, .inl (K.2.1, 5184, .inl (fun _ => pg_I 0))), (q2, .inl (K.1, 5184, .inl (fun _ => pg_I 0)))] := hD
  refine lv_aload_n hx hb (by decide +kernel : decode prog_7_method_1_code 22 = .ok (.aload_n 0, 1)) rfl (lv_at hl 0 rfl) ?_
  refine lv_iconst (v := pg_I 0) hx hb (by decide +kernel : decode prog_7_method_1_code 23 = .ok (.iconst 0, 1)) rfl ?_
  refine va_put (D := D) (ci := 1) (v := .int (pg_I 0)) (ty := .int) (C := pgR1) (T := pgT1) (N := 3) hx hb hts pgV1 pgY1 pgY1_ok pgN1 hown hK hP hD hS 0 rfl rfl 2 (by decide) (hts (.fieldLink pgR1 19 pgR1 "filled" "I") (pg_tb_in 96 rfl rfl)) (fun _ h9 => h9) rfl (by decide +kernel) rfl rfl (Nat.le_of_ble_eq_true rfl) (by decide +kernel : decode prog_7_method_1_code 24 = .ok (.putfield 19, 3)) (fun H locs hP hD hS => ?_)
  have hP : va_P D pgCl [(a0, .inr (1, [.ref q1, .ref q2, .int (pg_I 0)])), (q1, .inl (K.2.1, 5184, .inl (fun _ => pg_I 0))), (q2, .inl (K.1, 5184, .inl (fun _ => pg_I 0)))] H := hP
  have hD : va_D A [(a0, .inr (1, [.ref q1, .ref q2, .int (pg_I 0)])), (q1, .inl (K.2.1, 5184, .inl (fun _ => pg_I 0))), (q2, .inl (K.1, 5184, .inl (fun _ => pg_I 0)))] := hD
  exact W.vret hx hb hr (fun t ht hW => ⟨⟨(), rfl, trivial, q1, q2, by rw [ht]; exact hP, hD⟩, hS.F ht⟩) hS.2.2 (by decide +kernel : decode prog_7_method_1_code 27 = .ok (.return_, 1))
def ki_y2 : MethodName := ⟨pgR2, "<init>", "()V"⟩
set_option maxHeartbeats 4000000 in
set_option maxRecDepth 100000 in
theorem ki_M (l : Launch) (K : pg_K3) (D : va_G) (a0 sz : Nat) : Met l ki_y2 (Cond.code ki_y2 prog_4_method_1_code 1 none :: pg_tb) { frames := 1, cells := 1, slots := 48, locals := 20 } (va_Pc [.ref a0] (fun U => U.heap.size = sz ∧ va_P D pgCl [(a0, .inr (2, [.null, .int (pg_I 0), .int (pg_I 0), .int (pg_I 0)]))] U.heap ∧ va_K D pgCl (pg_tys K) U ∧ va_D (fun _ => True) [(a0, .inr (2, [.null, .int (pg_I 0), .int (pg_I 0), .int (pg_I 0)]))])) (va_Qv (fun _ : Unit => True) (fun _ t => ∃ q1 : Nat, va_P D pgCl [(a0, .inr (2, [.ref q1, .int (pg_I 0), .int (pg_I 1), .int (pg_I 4)])), (q1, .inl (K.1, 48, .inl (fun _ => pg_I 0)))] t.heap ∧ va_D (va_A [(a0, .inr (2, [.null, .int (pg_I 0), .int (pg_I 0), .int (pg_I 0)]))] sz) [(a0, .inr (2, [.ref q1, .int (pg_I 0), .int (pg_I 1), .int (pg_I 4)])), (q1, .inl (K.1, 48, .inl (fun _ => pg_I 0)))]) (va_A [(a0, .inr (2, [.null, .int (pg_I 0), .int (pg_I 0), .int (pg_I 0)]))] sz)) 1 48 (va_A [(a0, .inr (2, [.null, .int (pg_I 0), .int (pg_I 0), .int (pg_I 0)]))] sz) := by
  refine pg_ofW (cc := prog_4_method_1_code) (maxL := 1) (ret := none) (by decide +kernel) rfl ?_
  intro p e s m args below meth c s₁ B hml hv
  show W p l e { frames := 1, cells := 1, slots := 48, locals := 20 } s m args below meth c s.heap [] 0 0 _ _
  obtain ⟨rfl, hsz, hP, hK, hD0⟩ := hv
  have hx := B.exec
  have hb := B.bytes
  have hr := B.returns
  have hts0 := atoms_spec (ws := Cond.code ki_y2 prog_4_method_1_code 1 none :: pg_tb) B.pre
  have hts : ∀ w ∈ pg_tb, w.before _ s = true := fun w hw => hts0 w (List.mem_cons_of_mem _ hw)
  have hown : s.vm.findClass pgR2 = some m.cls := findClass_of_methodNamed B.named
  have hlocks := B.notSynchronized
  have hin : meth.name = "<init>" := (name_of_methodNamed B.named B.method).1
  subst hsz
  have hD := hD0.self (sz := s.heap.size)
  generalize hAe : va_A [(a0, .inr (2, [.null, .int (pg_I 0), .int (pg_I 0), .int (pg_I 0)]))] s.heap.size = A at hD ⊢
  have hA : ∀ q : Nat, s.heap.size ≤ q → A q := fun q h => by rw [← hAe]; exact Or.inr h
  have hS : va_S A s.heap s.heap [] := va_S.rf
  have hl := lv_entry ([.ref a0]) (n := 1) (Nat.le_of_ble_eq_true rfl)
  rw [lg_entry_eq]
  generalize (lg_sl ([.ref a0]) ++ List.replicate (1 - (lg_sl ([.ref a0])).length) Slot.unset).toArray = ls at hl ⊢
  have hl : lv_has ls 1 [(0, .ref a0)] := hl
  have hP : va_P D pgCl [(a0, .inr (2, [.null, .int (pg_I 0), .int (pg_I 0), .int (pg_I 0)]))] s.heap := hP
  refine lv_aload_n hx hb (by decide +kernel : decode prog_4_method_1_code 0 = .ok (.aload_n 0, 1)) rfl (lv_at hl 0 rfl) ?_
  refine W.objInit hx hb hown (hts (.methodLink pgR2 3 objectInit) (pg_tb_in 114 rfl rfl)) (hts (.instanceMethod objectInit) (pg_tb_in 86 rfl rfl)) (hts _ (pg_tb_in 87 rfl rfl)) rfl (by rw [hml]; exact hl.1) rfl (by decide +kernel : decode prog_4_method_1_code 1 = .ok (.invokespecial 3, 3)) (Nat.le_of_ble_eq_true rfl) (Nat.le_of_ble_eq_true rfl) ?_
  refine W.eq (g2 := F0 m 4 ls []) rfl ?_
  refine lv_aload_n hx hb (by decide +kernel : decode prog_4_method_1_code 4 = .ok (.aload_n 0, 1)) rfl (lv_at hl 0 rfl) ?_
  refine lv_bipush (v := pg_I 48) hx hb (by decide +kernel : decode prog_4_method_1_code 5 = .ok (.bipush 48, 2)) (pg_bi 48 (by decide) (by decide)) ?_
  have hc_ : 0 + 1 ≤ 1 := by omega
  have hs_ : 0 + 48 ≤ 48 := by omega
  refine pg_newa (D := D) (atype := .int) (cA := K.1) (N' := 48) (a0 := (48, .inl (fun _ => pg_I 0))) (ty := .int) hx hb (hts (.arrayClass .int) (pg_tb_in 108 rfl rfl)) rfl (hK.2 0 _ rfl).2 hP hD hS hA rfl (by decide +kernel) (by decide +kernel) (by decide +kernel) hc_ hs_ (by decide +kernel : decode prog_4_method_1_code 7 = .ok (.newarray .int, 2)) (fun q1 H hP hD hS => ?_)
  have hP : va_P D pgCl [(a0, .inr (2, [.null, .int (pg_I 0), .int (pg_I 0), .int (pg_I 0)])), (q1, .inl (K.1, 48, .inl (fun _ => pg_I 0)))] H := hP
  have hD : va_D A [(a0, .inr (2, [.null, .int (pg_I 0), .int (pg_I 0), .int (pg_I 0)])), (q1, .inl (K.1, 48, .inl (fun _ => pg_I 0)))] := hD
  refine W.widen (k := 1) (n := 48) (by omega) (by omega) ?_
  refine va_putF (D := D) (ci := 2) (v := .ref q1) (ty := .array .int) (C := pgR2) (T := pgT2) (N := 4) hx hb hts pgV2 pgY2 pgY2_ok pgN2 hown hK hP hD hS 0 rfl rfl 0 (by decide) (hts (.fieldLink pgR2 9 pgR2 "matrices" "[I") (pg_tb_in 115 rfl rfl)) (fun _ h9 => h9) rfl hin rfl (by decide +kernel) rfl rfl (Nat.le_of_ble_eq_true rfl) (by decide +kernel : decode prog_4_method_1_code 9 = .ok (.putfield 9, 3)) (fun H locs hP hD hS => ?_)
  have hP : va_P D pgCl [(a0, .inr (2, [.ref q1, .int (pg_I 0), .int (pg_I 0), .int (pg_I 0)])), (q1, .inl (K.1, 48, .inl (fun _ => pg_I 0)))] H := hP
  have hD : va_D A [(a0, .inr (2, [.ref q1, .int (pg_I 0), .int (pg_I 0), .int (pg_I 0)])), (q1, .inl (K.1, 48, .inl (fun _ => pg_I 0)))] := hD
  refine lv_aload_n hx hb (by decide +kernel : decode prog_4_method_1_code 12 = .ok (.aload_n 0, 1)) rfl (lv_at hl 0 rfl) ?_
  refine lv_iconst (v := pg_I 0) hx hb (by decide +kernel : decode prog_4_method_1_code 13 = .ok (.iconst 0, 1)) rfl ?_
  refine va_put (D := D) (ci := 2) (v := .int (pg_I 0)) (ty := .int) (C := pgR2) (T := pgT2) (N := 4) hx hb hts pgV2 pgY2 pgY2_ok pgN2 hown hK hP hD hS 0 rfl rfl 1 (by decide) (hts (.fieldLink pgR2 15 pgR2 "sort" "I") (pg_tb_in 116 rfl rfl)) (fun _ h9 => h9) rfl (by decide +kernel) rfl rfl (Nat.le_of_ble_eq_true rfl) (by decide +kernel : decode prog_4_method_1_code 14 = .ok (.putfield 15, 3)) (fun H locs hP hD hS => ?_)
  have hP : va_P D pgCl [(a0, .inr (2, [.ref q1, .int (pg_I 0), .int (pg_I 0), .int (pg_I 0)])), (q1, .inl (K.1, 48, .inl (fun _ => pg_I 0)))] H := hP
  have hD : va_D A [(a0, .inr (2, [.ref q1, .int (pg_I 0), .int (pg_I 0), .int (pg_I 0)])), (q1, .inl (K.1, 48, .inl (fun _ => pg_I 0)))] := hD
  refine lv_aload_n hx hb (by decide +kernel : decode prog_4_method_1_code 17 = .ok (.aload_n 0, 1)) rfl (lv_at hl 0 rfl) ?_
  refine lv_iconst (v := pg_I 1) hx hb (by decide +kernel : decode prog_4_method_1_code 18 = .ok (.iconst 1, 1)) rfl ?_
  refine va_put (D := D) (ci := 2) (v := .int (pg_I 1)) (ty := .int) (C := pgR2) (T := pgT2) (N := 4) hx hb hts pgV2 pgY2 pgY2_ok pgN2 hown hK hP hD hS 0 rfl rfl 2 (by decide) (hts (.fieldLink pgR2 19 pgR2 "size" "I") (pg_tb_in 118 rfl rfl)) (fun _ h9 => h9) rfl (by decide +kernel) rfl rfl (Nat.le_of_ble_eq_true rfl) (by decide +kernel : decode prog_4_method_1_code 19 = .ok (.putfield 19, 3)) (fun H locs hP hD hS => ?_)
  have hP : va_P D pgCl [(a0, .inr (2, [.ref q1, .int (pg_I 0), .int (pg_I 1), .int (pg_I 0)])), (q1, .inl (K.1, 48, .inl (fun _ => pg_I 0)))] H := hP
  have hD : va_D A [(a0, .inr (2, [.ref q1, .int (pg_I 0), .int (pg_I 1), .int (pg_I 0)])), (q1, .inl (K.1, 48, .inl (fun _ => pg_I 0)))] := hD
  refine lv_aload_n hx hb (by decide +kernel : decode prog_4_method_1_code 22 = .ok (.aload_n 0, 1)) rfl (lv_at hl 0 rfl) ?_
  refine lv_iconst (v := pg_I 4) hx hb (by decide +kernel : decode prog_4_method_1_code 23 = .ok (.iconst 4, 1)) rfl ?_
  refine va_put (D := D) (ci := 2) (v := .int (pg_I 4)) (ty := .int) (C := pgR2) (T := pgT2) (N := 4) hx hb hts pgV2 pgY2 pgY2_ok pgN2 hown hK hP hD hS 0 rfl rfl 3 (by decide) (hts (.fieldLink pgR2 22 pgR2 "round" "I") (pg_tb_in 124 rfl rfl)) (fun _ h9 => h9) rfl (by decide +kernel) rfl rfl (Nat.le_of_ble_eq_true rfl) (by decide +kernel : decode prog_4_method_1_code 24 = .ok (.putfield 22, 3)) (fun H locs hP hD hS => ?_)
  have hP : va_P D pgCl [(a0, .inr (2, [.ref q1, .int (pg_I 0), .int (pg_I 1), .int (pg_I 4)])), (q1, .inl (K.1, 48, .inl (fun _ => pg_I 0)))] H := hP
  have hD : va_D A [(a0, .inr (2, [.ref q1, .int (pg_I 0), .int (pg_I 1), .int (pg_I 4)])), (q1, .inl (K.1, 48, .inl (fun _ => pg_I 0)))] := hD
  exact W.vret hx hb hr (fun t ht hW => ⟨⟨(), rfl, trivial, q1, by rw [ht]; exact hP, hD⟩, hS.F ht⟩) hS.2.2 (by decide +kernel : decode prog_4_method_1_code 27 = .ok (.return_, 1))
def ki_y3 : MethodName := ⟨pgR3, "<init>", "(LPlaneGroups$Moves;)V"⟩
set_option maxHeartbeats 4000000 in
set_option maxRecDepth 100000 in
theorem ki_C (l : Launch) (K : pg_K3) (D : va_G) (a0 r1 sz : Nat) : Met l ki_y3 (Cond.code ki_y3 prog_5_method_1_code 2 none :: pg_tb) { frames := 1, cells := 3, slots := 164, locals := 20 } (va_Pc [.ref a0, .ref r1] (fun U => U.heap.size = sz ∧ va_P D pgCl [(a0, .inr (3, [.null, .null, .null, .null]))] U.heap ∧ va_K D pgCl (pg_tys K) U ∧ va_D (fun _ => True) [(a0, .inr (3, [.null, .null, .null, .null]))])) (va_Qv (fun _ : Unit => True) (fun _ t => ∃ q1 q2 q3 : Nat, va_P D pgCl [(a0, .inr (3, [.ref r1, .ref q1, .ref q2, .ref q3])), (q1, .inl (K.1, 144, .inl (fun _ => pg_I 0))), (q2, .inl (K.1, 10, .inl (fun _ => pg_I 0))), (q3, .inl (K.1, 10, .inl (fun _ => pg_I 0)))] t.heap ∧ va_D (va_A [(a0, .inr (3, [.null, .null, .null, .null]))] sz) [(a0, .inr (3, [.ref r1, .ref q1, .ref q2, .ref q3])), (q1, .inl (K.1, 144, .inl (fun _ => pg_I 0))), (q2, .inl (K.1, 10, .inl (fun _ => pg_I 0))), (q3, .inl (K.1, 10, .inl (fun _ => pg_I 0)))]) (va_A [(a0, .inr (3, [.null, .null, .null, .null]))] sz)) 3 164 (va_A [(a0, .inr (3, [.null, .null, .null, .null]))] sz) := by
  refine pg_ofW (cc := prog_5_method_1_code) (maxL := 2) (ret := none) (by decide +kernel) rfl ?_
  intro p e s m args below meth c s₁ B hml hv
  show W p l e { frames := 1, cells := 3, slots := 164, locals := 20 } s m args below meth c s.heap [] 0 0 _ _
  obtain ⟨rfl, hsz, hP, hK, hD0⟩ := hv
  have hx := B.exec
  have hb := B.bytes
  have hr := B.returns
  have hts0 := atoms_spec (ws := Cond.code ki_y3 prog_5_method_1_code 2 none :: pg_tb) B.pre
  have hts : ∀ w ∈ pg_tb, w.before _ s = true := fun w hw => hts0 w (List.mem_cons_of_mem _ hw)
  have hown : s.vm.findClass pgR3 = some m.cls := findClass_of_methodNamed B.named
  have hlocks := B.notSynchronized
  have hin : meth.name = "<init>" := (name_of_methodNamed B.named B.method).1
  subst hsz
  have hD := hD0.self (sz := s.heap.size)
  generalize hAe : va_A [(a0, .inr (3, [.null, .null, .null, .null]))] s.heap.size = A at hD ⊢
  have hA : ∀ q : Nat, s.heap.size ≤ q → A q := fun q h => by rw [← hAe]; exact Or.inr h
  have hS : va_S A s.heap s.heap [] := va_S.rf
  have hl := lv_entry ([.ref a0, .ref r1]) (n := 2) (Nat.le_of_ble_eq_true rfl)
  rw [lg_entry_eq]
  generalize (lg_sl ([.ref a0, .ref r1]) ++ List.replicate (2 - (lg_sl ([.ref a0, .ref r1])).length) Slot.unset).toArray = ls at hl ⊢
  have hl : lv_has ls 2 [(0, .ref a0), (1, .ref r1)] := hl
  have hP : va_P D pgCl [(a0, .inr (3, [.null, .null, .null, .null]))] s.heap := hP
  refine lv_aload_n hx hb (by decide +kernel : decode prog_5_method_1_code 0 = .ok (.aload_n 0, 1)) rfl (lv_at hl 0 rfl) ?_
  refine W.objInit hx hb hown (hts (.methodLink pgR3 3 objectInit) (pg_tb_in 141 rfl rfl)) (hts (.instanceMethod objectInit) (pg_tb_in 86 rfl rfl)) (hts _ (pg_tb_in 87 rfl rfl)) rfl (by rw [hml]; exact hl.1) rfl (by decide +kernel : decode prog_5_method_1_code 1 = .ok (.invokespecial 3, 3)) (Nat.le_of_ble_eq_true rfl) (Nat.le_of_ble_eq_true rfl) ?_
  refine W.eq (g2 := F0 m 4 ls []) rfl ?_
  refine lv_aload_n hx hb (by decide +kernel : decode prog_5_method_1_code 4 = .ok (.aload_n 0, 1)) rfl (lv_at hl 0 rfl) ?_
  refine lv_sipush (v := pg_I 144) hx hb (by decide +kernel : decode prog_5_method_1_code 5 = .ok (.sipush 144, 3)) (pg_si 144 (by decide) (by decide)) ?_
  have hc_ : 0 + 1 ≤ 3 := by omega
  have hs_ : 0 + 144 ≤ 164 := by omega
  refine pg_newa (D := D) (atype := .int) (cA := K.1) (N' := 144) (a0 := (144, .inl (fun _ => pg_I 0))) (ty := .int) hx hb (hts (.arrayClass .int) (pg_tb_in 108 rfl rfl)) rfl (hK.2 0 _ rfl).2 hP hD hS hA rfl (by decide +kernel) (by decide +kernel) (by decide +kernel) hc_ hs_ (by decide +kernel : decode prog_5_method_1_code 8 = .ok (.newarray .int, 2)) (fun q1 H hP hD hS => ?_)
  have hP : va_P D pgCl [(a0, .inr (3, [.null, .null, .null, .null])), (q1, .inl (K.1, 144, .inl (fun _ => pg_I 0)))] H := hP
  have hD : va_D A [(a0, .inr (3, [.null, .null, .null, .null])), (q1, .inl (K.1, 144, .inl (fun _ => pg_I 0)))] := hD
  refine W.widen (k := 1) (n := 144) (by omega) (by omega) ?_
  refine va_putF (D := D) (ci := 3) (v := .ref q1) (ty := .array .int) (C := pgR3) (T := pgT3) (N := 4) hx hb hts pgV3 pgY3 pgY3_ok pgN3 hown hK hP hD hS 0 rfl rfl 1 (by decide) (hts (.fieldLink pgR3 9 pgR3 "colours" "[I") (pg_tb_in 143 rfl rfl)) (fun _ h9 => h9) rfl hin rfl (by decide +kernel) rfl rfl (Nat.le_of_ble_eq_true rfl) (by decide +kernel : decode prog_5_method_1_code 10 = .ok (.putfield 9, 3)) (fun H locs hP hD hS => ?_)
  have hP : va_P D pgCl [(a0, .inr (3, [.null, .ref q1, .null, .null])), (q1, .inl (K.1, 144, .inl (fun _ => pg_I 0)))] H := hP
  have hD : va_D A [(a0, .inr (3, [.null, .ref q1, .null, .null])), (q1, .inl (K.1, 144, .inl (fun _ => pg_I 0)))] := hD
  refine lv_aload_n hx hb (by decide +kernel : decode prog_5_method_1_code 13 = .ok (.aload_n 0, 1)) rfl (lv_at hl 0 rfl) ?_
  refine lv_bipush (v := pg_I 10) hx hb (by decide +kernel : decode prog_5_method_1_code 14 = .ok (.bipush 10, 2)) (pg_bi 10 (by decide) (by decide)) ?_
  have hc_ : 1 + 1 ≤ 3 := by omega
  have hs_ : 144 + 10 ≤ 164 := by omega
  refine pg_newa (D := D) (atype := .int) (cA := K.1) (N' := 10) (a0 := (10, .inl (fun _ => pg_I 0))) (ty := .int) hx hb (hts (.arrayClass .int) (pg_tb_in 108 rfl rfl)) rfl (hK.2 0 _ rfl).2 hP hD hS hA rfl (by decide +kernel) (by decide +kernel) (by decide +kernel) hc_ hs_ (by decide +kernel : decode prog_5_method_1_code 16 = .ok (.newarray .int, 2)) (fun q2 H hP hD hS => ?_)
  have hP : va_P D pgCl [(a0, .inr (3, [.null, .ref q1, .null, .null])), (q1, .inl (K.1, 144, .inl (fun _ => pg_I 0))), (q2, .inl (K.1, 10, .inl (fun _ => pg_I 0)))] H := hP
  have hD : va_D A [(a0, .inr (3, [.null, .ref q1, .null, .null])), (q1, .inl (K.1, 144, .inl (fun _ => pg_I 0))), (q2, .inl (K.1, 10, .inl (fun _ => pg_I 0)))] := hD
  refine W.widen (k := 2) (n := 154) (by omega) (by omega) ?_
  refine va_putF (D := D) (ci := 3) (v := .ref q2) (ty := .array .int) (C := pgR3) (T := pgT3) (N := 4) hx hb hts pgV3 pgY3 pgY3_ok pgN3 hown hK hP hD hS 0 rfl rfl 2 (by decide) (hts (.fieldLink pgR3 15 pgR3 "shares" "[I") (pg_tb_in 147 rfl rfl)) (fun _ h9 => h9) rfl hin rfl (by decide +kernel) rfl rfl (Nat.le_of_ble_eq_true rfl) (by decide +kernel : decode prog_5_method_1_code 18 = .ok (.putfield 15, 3)) (fun H locs hP hD hS => ?_)
  have hP : va_P D pgCl [(a0, .inr (3, [.null, .ref q1, .ref q2, .null])), (q1, .inl (K.1, 144, .inl (fun _ => pg_I 0))), (q2, .inl (K.1, 10, .inl (fun _ => pg_I 0)))] H := hP
  have hD : va_D A [(a0, .inr (3, [.null, .ref q1, .ref q2, .null])), (q1, .inl (K.1, 144, .inl (fun _ => pg_I 0))), (q2, .inl (K.1, 10, .inl (fun _ => pg_I 0)))] := hD
  refine lv_aload_n hx hb (by decide +kernel : decode prog_5_method_1_code 21 = .ok (.aload_n 0, 1)) rfl (lv_at hl 0 rfl) ?_
  refine lv_bipush (v := pg_I 10) hx hb (by decide +kernel : decode prog_5_method_1_code 22 = .ok (.bipush 10, 2)) (pg_bi 10 (by decide) (by decide)) ?_
  have hc_ : 2 + 1 ≤ 3 := by omega
  have hs_ : 154 + 10 ≤ 164 := by omega
  refine pg_newa (D := D) (atype := .int) (cA := K.1) (N' := 10) (a0 := (10, .inl (fun _ => pg_I 0))) (ty := .int) hx hb (hts (.arrayClass .int) (pg_tb_in 108 rfl rfl)) rfl (hK.2 0 _ rfl).2 hP hD hS hA rfl (by decide +kernel) (by decide +kernel) (by decide +kernel) hc_ hs_ (by decide +kernel : decode prog_5_method_1_code 24 = .ok (.newarray .int, 2)) (fun q3 H hP hD hS => ?_)
  have hP : va_P D pgCl [(a0, .inr (3, [.null, .ref q1, .ref q2, .null])), (q1, .inl (K.1, 144, .inl (fun _ => pg_I 0))), (q2, .inl (K.1, 10, .inl (fun _ => pg_I 0))), (q3, .inl (K.1, 10, .inl (fun _ => pg_I 0)))] H := hP
  have hD : va_D A [(a0, .inr (3, [.null, .ref q1, .ref q2, .null])), (q1, .inl (K.1, 144, .inl (fun _ => pg_I 0))), (q2, .inl (K.1, 10, .inl (fun _ => pg_I 0))), (q3, .inl (K.1, 10, .inl (fun _ => pg_I 0)))] := hD
  refine W.widen (k := 3) (n := 164) (by omega) (by omega) ?_
  refine va_putF (D := D) (ci := 3) (v := .ref q3) (ty := .array .int) (C := pgR3) (T := pgT3) (N := 4) hx hb hts pgV3 pgY3 pgY3_ok pgN3 hown hK hP hD hS 0 rfl rfl 3 (by decide) (hts (.fieldLink pgR3 18 pgR3 "image" "[I") (pg_tb_in 149 rfl rfl)) (fun _ h9 => h9) rfl hin rfl (by decide +kernel) rfl rfl (Nat.le_of_ble_eq_true rfl) (by decide +kernel : decode prog_5_method_1_code 26 = .ok (.putfield 18, 3)) (fun H locs hP hD hS => ?_)
  have hP : va_P D pgCl [(a0, .inr (3, [.null, .ref q1, .ref q2, .ref q3])), (q1, .inl (K.1, 144, .inl (fun _ => pg_I 0))), (q2, .inl (K.1, 10, .inl (fun _ => pg_I 0))), (q3, .inl (K.1, 10, .inl (fun _ => pg_I 0)))] H := hP
  have hD : va_D A [(a0, .inr (3, [.null, .ref q1, .ref q2, .ref q3])), (q1, .inl (K.1, 144, .inl (fun _ => pg_I 0))), (q2, .inl (K.1, 10, .inl (fun _ => pg_I 0))), (q3, .inl (K.1, 10, .inl (fun _ => pg_I 0)))] := hD
  refine lv_aload_n hx hb (by decide +kernel : decode prog_5_method_1_code 29 = .ok (.aload_n 0, 1)) rfl (lv_at hl 0 rfl) ?_
  refine lv_aload_n hx hb (by decide +kernel : decode prog_5_method_1_code 30 = .ok (.aload_n 1, 1)) rfl (lv_at hl 1 rfl) ?_
  refine va_putF (D := D) (ci := 3) (v := .ref r1) (ty := .object "PlaneGroups$Moves") (C := pgR3) (T := pgT3) (N := 4) hx hb hts pgV3 pgY3 pgY3_ok pgN3 hown hK hP hD hS 0 rfl rfl 0 (by decide) (hts (.fieldLink pgR3 21 pgR3 "moves" "LPlaneGroups$Moves;") (pg_tb_in 142 rfl rfl)) (fun _ h9 => h9) rfl hin rfl (by decide +kernel) rfl rfl (Nat.le_of_ble_eq_true rfl) (by decide +kernel : decode prog_5_method_1_code 31 = .ok (.putfield 21, 3)) (fun H locs hP hD hS => ?_)
  have hP : va_P D pgCl [(a0, .inr (3, [.ref r1, .ref q1, .ref q2, .ref q3])), (q1, .inl (K.1, 144, .inl (fun _ => pg_I 0))), (q2, .inl (K.1, 10, .inl (fun _ => pg_I 0))), (q3, .inl (K.1, 10, .inl (fun _ => pg_I 0)))] H := hP
  have hD : va_D A [(a0, .inr (3, [.ref r1, .ref q1, .ref q2, .ref q3])), (q1, .inl (K.1, 144, .inl (fun _ => pg_I 0))), (q2, .inl (K.1, 10, .inl (fun _ => pg_I 0))), (q3, .inl (K.1, 10, .inl (fun _ => pg_I 0)))] := hD
  exact W.vret hx hb hr (fun t ht hW => ⟨⟨(), rfl, trivial, q1, q2, q3, by rw [ht]; exact hP, hD⟩, hS.F ht⟩) hS.2.2 (by decide +kernel : decode prog_5_method_1_code 34 = .ok (.return_, 1))
def ki_y4 : MethodName := ⟨pgR4, "<init>", "(LPlaneGroups$Moves;LPlaneGroups$Picture;)V"⟩
set_option maxHeartbeats 4000000 in
set_option maxRecDepth 100000 in
theorem ki_S (l : Launch) (K : pg_K3) (D : va_G) (a0 r1 r2 sz : Nat) : Met l ki_y4 (Cond.code ki_y4 prog_9_method_1_code 3 none :: pg_tb) { frames := 1, cells := 2, slots := 24, locals := 20 } (va_Pc [.ref a0, .ref r1, .ref r2] (fun U => U.heap.size = sz ∧ va_P D pgCl [(a0, .inr (4, [.null, .null, .null, .null, .int (pg_I 0), .int (pg_I 0), .int (pg_I 0), .int (pg_I 0), .int (pg_I 0), .int (pg_I 0)]))] U.heap ∧ va_K D pgCl (pg_tys K) U ∧ va_D (fun _ => True) [(a0, .inr (4, [.null, .null, .null, .null, .int (pg_I 0), .int (pg_I 0), .int (pg_I 0), .int (pg_I 0), .int (pg_I 0), .int (pg_I 0)]))])) (va_Qv (fun _ : Unit => True) (fun _ t => ∃ q1 q2 : Nat, va_P D pgCl [(a0, .inr (4, [.ref r1, .ref r2, .ref q1, .ref q2, .int (pg_I 1), .int (pg_I 0), .int (pg_I 1), .int (pg_I 1), .int (pg_I (-1)), .int (pg_I 0)])), (q1, .inl (K.1, 12, .inl (fun _ => pg_I 0))), (q2, .inl (K.1, 12, .inl (fun _ => pg_I 0)))] t.heap ∧ va_D (va_A [(a0, .inr (4, [.null, .null, .null, .null, .int (pg_I 0), .int (pg_I 0), .int (pg_I 0), .int (pg_I 0), .int (pg_I 0), .int (pg_I 0)]))] sz) [(a0, .inr (4, [.ref r1, .ref r2, .ref q1, .ref q2, .int (pg_I 1), .int (pg_I 0), .int (pg_I 1), .int (pg_I 1), .int (pg_I (-1)), .int (pg_I 0)])), (q1, .inl (K.1, 12, .inl (fun _ => pg_I 0))), (q2, .inl (K.1, 12, .inl (fun _ => pg_I 0)))]) (va_A [(a0, .inr (4, [.null, .null, .null, .null, .int (pg_I 0), .int (pg_I 0), .int (pg_I 0), .int (pg_I 0), .int (pg_I 0), .int (pg_I 0)]))] sz)) 2 24 (va_A [(a0, .inr (4, [.null, .null, .null, .null, .int (pg_I 0), .int (pg_I 0), .int (pg_I 0), .int (pg_I 0), .int (pg_I 0), .int (pg_I 0)]))] sz) := by
  refine pg_ofW (cc := prog_9_method_1_code) (maxL := 3) (ret := none) (by decide +kernel) rfl ?_
  intro p e s m args below meth c s₁ B hml hv
  show W p l e { frames := 1, cells := 2, slots := 24, locals := 20 } s m args below meth c s.heap [] 0 0 _ _
  obtain ⟨rfl, hsz, hP, hK, hD0⟩ := hv
  have hx := B.exec
  have hb := B.bytes
  have hr := B.returns
  have hts0 := atoms_spec (ws := Cond.code ki_y4 prog_9_method_1_code 3 none :: pg_tb) B.pre
  have hts : ∀ w ∈ pg_tb, w.before _ s = true := fun w hw => hts0 w (List.mem_cons_of_mem _ hw)
  have hown : s.vm.findClass pgR4 = some m.cls := findClass_of_methodNamed B.named
  have hlocks := B.notSynchronized
  have hin : meth.name = "<init>" := (name_of_methodNamed B.named B.method).1
  subst hsz
  have hD := hD0.self (sz := s.heap.size)
  generalize hAe : va_A [(a0, .inr (4, [.null, .null, .null, .null, .int (pg_I 0), .int (pg_I 0), .int (pg_I 0), .int (pg_I 0), .int (pg_I 0), .int (pg_I 0)]))] s.heap.size = A at hD ⊢
  have hA : ∀ q : Nat, s.heap.size ≤ q → A q := fun q h => by rw [← hAe]; exact Or.inr h
  have hS : va_S A s.heap s.heap [] := va_S.rf
  have hl := lv_entry ([.ref a0, .ref r1, .ref r2]) (n := 3) (Nat.le_of_ble_eq_true rfl)
  rw [lg_entry_eq]
  generalize (lg_sl ([.ref a0, .ref r1, .ref r2]) ++ List.replicate (3 - (lg_sl ([.ref a0, .ref r1, .ref r2])).length) Slot.unset).toArray = ls at hl ⊢
  have hl : lv_has ls 3 [(0, .ref a0), (1, .ref r1), (2, .ref r2)] := hl
  have hP : va_P D pgCl [(a0, .inr (4, [.null, .null, .null, .null, .int (pg_I 0), .int (pg_I 0), .int (pg_I 0), .int (pg_I 0), .int (pg_I 0), .int (pg_I 0)]))] s.heap := hP
  refine lv_aload_n hx hb (by decide +kernel : decode prog_9_method_1_code 0 = .ok (.aload_n 0, 1)) rfl (lv_at hl 0 rfl) ?_
  refine W.objInit hx hb hown (hts (.methodLink pgR4 3 objectInit) (pg_tb_in 165 rfl rfl)) (hts (.instanceMethod objectInit) (pg_tb_in 86 rfl rfl)) (hts _ (pg_tb_in 87 rfl rfl)) rfl (by rw [hml]; exact hl.1) rfl (by decide +kernel : decode prog_9_method_1_code 1 = .ok (.invokespecial 3, 3)) (Nat.le_of_ble_eq_true rfl) (Nat.le_of_ble_eq_true rfl) ?_
  refine W.eq (g2 := F0 m 4 ls []) rfl ?_
  refine lv_aload_n hx hb (by decide +kernel : decode prog_9_method_1_code 4 = .ok (.aload_n 0, 1)) rfl (lv_at hl 0 rfl) ?_
  refine lv_bipush (v := pg_I 12) hx hb (by decide +kernel : decode prog_9_method_1_code 5 = .ok (.bipush 12, 2)) (pg_bi 12 (by decide) (by decide)) ?_
  have hc_ : 0 + 1 ≤ 2 := by omega
  have hs_ : 0 + 12 ≤ 24 := by omega
  refine pg_newa (D := D) (atype := .int) (cA := K.1) (N' := 12) (a0 := (12, .inl (fun _ => pg_I 0))) (ty := .int) hx hb (hts (.arrayClass .int) (pg_tb_in 108 rfl rfl)) rfl (hK.2 0 _ rfl).2 hP hD hS hA rfl (by decide +kernel) (by decide +kernel) (by decide +kernel) hc_ hs_ (by decide +kernel : decode prog_9_method_1_code 7 = .ok (.newarray .int, 2)) (fun q1 H hP hD hS => ?_)
  have hP : va_P D pgCl [(a0, .inr (4, [.null, .null, .null, .null, .int (pg_I 0), .int (pg_I 0), .int (pg_I 0), .int (pg_I 0), .int (pg_I 0), .int (pg_I 0)])), (q1, .inl (K.1, 12, .inl (fun _ => pg_I 0)))] H := hP
  have hD : va_D A [(a0, .inr (4, [.null, .null, .null, .null, .int (pg_I 0), .int (pg_I 0), .int (pg_I 0), .int (pg_I 0), .int (pg_I 0), .int (pg_I 0)])), (q1, .inl (K.1, 12, .inl (fun _ => pg_I 0)))] := hD
  refine W.widen (k := 1) (n := 12) (by omega) (by omega) ?_
  refine va_putF (D := D) (ci := 4) (v := .ref q1) (ty := .array .int) (C := pgR4) (T := pgT4) (N := 10) hx hb hts pgV4 pgY4 pgY4_ok pgN4 hown hK hP hD hS 0 rfl rfl 2 (by decide) (hts (.fieldLink pgR4 9 pgR4 "across" "[I") (pg_tb_in 168 rfl rfl)) (fun _ h9 => h9) rfl hin rfl (by decide +kernel) rfl rfl (Nat.le_of_ble_eq_true rfl) (by decide +kernel : decode prog_9_method_1_code 9 = .ok (.putfield 9, 3)) (fun H locs hP hD hS => ?_)
  have hP : va_P D pgCl [(a0, .inr (4, [.null, .null, .ref q1, .null, .int (pg_I 0), .int (pg_I 0), .int (pg_I 0), .int (pg_I 0), .int (pg_I 0), .int (pg_I 0)])), (q1, .inl (K.1, 12, .inl (fun _ => pg_I 0)))] H := hP
  have hD : va_D A [(a0, .inr (4, [.null, .null, .ref q1, .null, .int (pg_I 0), .int (pg_I 0), .int (pg_I 0), .int (pg_I 0), .int (pg_I 0), .int (pg_I 0)])), (q1, .inl (K.1, 12, .inl (fun _ => pg_I 0)))] := hD
  refine lv_aload_n hx hb (by decide +kernel : decode prog_9_method_1_code 12 = .ok (.aload_n 0, 1)) rfl (lv_at hl 0 rfl) ?_
  refine lv_bipush (v := pg_I 12) hx hb (by decide +kernel : decode prog_9_method_1_code 13 = .ok (.bipush 12, 2)) (pg_bi 12 (by decide) (by decide)) ?_
  have hc_ : 1 + 1 ≤ 2 := by omega
  have hs_ : 12 + 12 ≤ 24 := by omega
  refine pg_newa (D := D) (atype := .int) (cA := K.1) (N' := 12) (a0 := (12, .inl (fun _ => pg_I 0))) (ty := .int) hx hb (hts (.arrayClass .int) (pg_tb_in 108 rfl rfl)) rfl (hK.2 0 _ rfl).2 hP hD hS hA rfl (by decide +kernel) (by decide +kernel) (by decide +kernel) hc_ hs_ (by decide +kernel : decode prog_9_method_1_code 15 = .ok (.newarray .int, 2)) (fun q2 H hP hD hS => ?_)
  have hP : va_P D pgCl [(a0, .inr (4, [.null, .null, .ref q1, .null, .int (pg_I 0), .int (pg_I 0), .int (pg_I 0), .int (pg_I 0), .int (pg_I 0), .int (pg_I 0)])), (q1, .inl (K.1, 12, .inl (fun _ => pg_I 0))), (q2, .inl (K.1, 12, .inl (fun _ => pg_I 0)))] H := hP
  have hD : va_D A [(a0, .inr (4, [.null, .null, .ref q1, .null, .int (pg_I 0), .int (pg_I 0), .int (pg_I 0), .int (pg_I 0), .int (pg_I 0), .int (pg_I 0)])), (q1, .inl (K.1, 12, .inl (fun _ => pg_I 0))), (q2, .inl (K.1, 12, .inl (fun _ => pg_I 0)))] := hD
  refine W.widen (k := 2) (n := 24) (by omega) (by omega) ?_
  refine va_putF (D := D) (ci := 4) (v := .ref q2) (ty := .array .int) (C := pgR4) (T := pgT4) (N := 10) hx hb hts pgV4 pgY4 pgY4_ok pgN4 hown hK hP hD hS 0 rfl rfl 3 (by decide) (hts (.fieldLink pgR4 15 pgR4 "along" "[I") (pg_tb_in 171 rfl rfl)) (fun _ h9 => h9) rfl hin rfl (by decide +kernel) rfl rfl (Nat.le_of_ble_eq_true rfl) (by decide +kernel : decode prog_9_method_1_code 17 = .ok (.putfield 15, 3)) (fun H locs hP hD hS => ?_)
  have hP : va_P D pgCl [(a0, .inr (4, [.null, .null, .ref q1, .ref q2, .int (pg_I 0), .int (pg_I 0), .int (pg_I 0), .int (pg_I 0), .int (pg_I 0), .int (pg_I 0)])), (q1, .inl (K.1, 12, .inl (fun _ => pg_I 0))), (q2, .inl (K.1, 12, .inl (fun _ => pg_I 0)))] H := hP
  have hD : va_D A [(a0, .inr (4, [.null, .null, .ref q1, .ref q2, .int (pg_I 0), .int (pg_I 0), .int (pg_I 0), .int (pg_I 0), .int (pg_I 0), .int (pg_I 0)])), (q1, .inl (K.1, 12, .inl (fun _ => pg_I 0))), (q2, .inl (K.1, 12, .inl (fun _ => pg_I 0)))] := hD
  refine lv_aload_n hx hb (by decide +kernel : decode prog_9_method_1_code 20 = .ok (.aload_n 0, 1)) rfl (lv_at hl 0 rfl) ?_
  refine lv_iconst (v := pg_I 1) hx hb (by decide +kernel : decode prog_9_method_1_code 21 = .ok (.iconst 1, 1)) rfl ?_
  refine va_put (D := D) (ci := 4) (v := .int (pg_I 1)) (ty := .int) (C := pgR4) (T := pgT4) (N := 10) hx hb hts pgV4 pgY4 pgY4_ok pgN4 hown hK hP hD hS 0 rfl rfl 4 (by decide) (hts (.fieldLink pgR4 18 pgR4 "a" "I") (pg_tb_in 174 rfl rfl)) (fun _ h9 => h9) rfl (by decide +kernel) rfl rfl (Nat.le_of_ble_eq_true rfl) (by decide +kernel : decode prog_9_method_1_code 22 = .ok (.putfield 18, 3)) (fun H locs hP hD hS => ?_)
  have hP : va_P D pgCl [(a0, .inr (4, [.null, .null, .ref q1, .ref q2, .int (pg_I 1), .int (pg_I 0), .int (pg_I 0), .int (pg_I 0), .int (pg_I 0), .int (pg_I 0)])), (q1, .inl (K.1, 12, .inl (fun _ => pg_I 0))), (q2, .inl (K.1, 12, .inl (fun _ => pg_I 0)))] H := hP
  have hD : va_D A [(a0, .inr (4, [.null, .null, .ref q1, .ref q2, .int (pg_I 1), .int (pg_I 0), .int (pg_I 0), .int (pg_I 0), .int (pg_I 0), .int (pg_I 0)])), (q1, .inl (K.1, 12, .inl (fun _ => pg_I 0))), (q2, .inl (K.1, 12, .inl (fun _ => pg_I 0)))] := hD
  refine lv_aload_n hx hb (by decide +kernel : decode prog_9_method_1_code 25 = .ok (.aload_n 0, 1)) rfl (lv_at hl 0 rfl) ?_
  refine lv_iconst (v := pg_I 0) hx hb (by decide +kernel : decode prog_9_method_1_code 26 = .ok (.iconst 0, 1)) rfl ?_
  refine va_put (D := D) (ci := 4) (v := .int (pg_I 0)) (ty := .int) (C := pgR4) (T := pgT4) (N := 10) hx hb hts pgV4 pgY4 pgY4_ok pgN4 hown hK hP hD hS 0 rfl rfl 5 (by decide) (hts (.fieldLink pgR4 22 pgR4 "b" "I") (pg_tb_in 178 rfl rfl)) (fun _ h9 => h9) rfl (by decide +kernel) rfl rfl (Nat.le_of_ble_eq_true rfl) (by decide +kernel : decode prog_9_method_1_code 27 = .ok (.putfield 22, 3)) (fun H locs hP hD hS => ?_)
  have hP : va_P D pgCl [(a0, .inr (4, [.null, .null, .ref q1, .ref q2, .int (pg_I 1), .int (pg_I 0), .int (pg_I 0), .int (pg_I 0), .int (pg_I 0), .int (pg_I 0)])), (q1, .inl (K.1, 12, .inl (fun _ => pg_I 0))), (q2, .inl (K.1, 12, .inl (fun _ => pg_I 0)))] H := hP
  have hD : va_D A [(a0, .inr (4, [.null, .null, .ref q1, .ref q2, .int (pg_I 1), .int (pg_I 0), .int (pg_I 0), .int (pg_I 0), .int (pg_I 0), .int (pg_I 0)])), (q1, .inl (K.1, 12, .inl (fun _ => pg_I 0))), (q2, .inl (K.1, 12, .inl (fun _ => pg_I 0)))] := hD
  refine lv_aload_n hx hb (by decide +kernel : decode prog_9_method_1_code 30 = .ok (.aload_n 0, 1)) rfl (lv_at hl 0 rfl) ?_
  refine lv_iconst (v := pg_I 1) hx hb (by decide +kernel : decode prog_9_method_1_code 31 = .ok (.iconst 1, 1)) rfl ?_
  refine va_put (D := D) (ci := 4) (v := .int (pg_I 1)) (ty := .int) (C := pgR4) (T := pgT4) (N := 10) hx hb hts pgV4 pgY4 pgY4_ok pgN4 hown hK hP hD hS 0 rfl rfl 6 (by decide) (hts (.fieldLink pgR4 25 pgR4 "c" "I") (pg_tb_in 182 rfl rfl)) (fun _ h9 => h9) rfl (by decide +kernel) rfl rfl (Nat.le_of_ble_eq_true rfl) (by decide +kernel : decode prog_9_method_1_code 32 = .ok (.putfield 25, 3)) (fun H locs hP hD hS => ?_)
  have hP : va_P D pgCl [(a0, .inr (4, [.null, .null, .ref q1, .ref q2, .int (pg_I 1), .int (pg_I 0), .int (pg_I 1), .int (pg_I 0), .int (pg_I 0), .int (pg_I 0)])), (q1, .inl (K.1, 12, .inl (fun _ => pg_I 0))), (q2, .inl (K.1, 12, .inl (fun _ => pg_I 0)))] H := hP
  have hD : va_D A [(a0, .inr (4, [.null, .null, .ref q1, .ref q2, .int (pg_I 1), .int (pg_I 0), .int (pg_I 1), .int (pg_I 0), .int (pg_I 0), .int (pg_I 0)])), (q1, .inl (K.1, 12, .inl (fun _ => pg_I 0))), (q2, .inl (K.1, 12, .inl (fun _ => pg_I 0)))] := hD
  refine lv_aload_n hx hb (by decide +kernel : decode prog_9_method_1_code 35 = .ok (.aload_n 0, 1)) rfl (lv_at hl 0 rfl) ?_
  refine lv_iconst (v := pg_I 1) hx hb (by decide +kernel : decode prog_9_method_1_code 36 = .ok (.iconst 1, 1)) rfl ?_
  refine va_put (D := D) (ci := 4) (v := .int (pg_I 1)) (ty := .int) (C := pgR4) (T := pgT4) (N := 10) hx hb hts pgV4 pgY4 pgY4_ok pgN4 hown hK hP hD hS 0 rfl rfl 7 (by decide) (hts (.fieldLink pgR4 28 pgR4 "linears" "I") (pg_tb_in 186 rfl rfl)) (fun _ h9 => h9) rfl (by decide +kernel) rfl rfl (Nat.le_of_ble_eq_true rfl) (by decide +kernel : decode prog_9_method_1_code 37 = .ok (.putfield 28, 3)) (fun H locs hP hD hS => ?_)
  have hP : va_P D pgCl [(a0, .inr (4, [.null, .null, .ref q1, .ref q2, .int (pg_I 1), .int (pg_I 0), .int (pg_I 1), .int (pg_I 1), .int (pg_I 0), .int (pg_I 0)])), (q1, .inl (K.1, 12, .inl (fun _ => pg_I 0))), (q2, .inl (K.1, 12, .inl (fun _ => pg_I 0)))] H := hP
  have hD : va_D A [(a0, .inr (4, [.null, .null, .ref q1, .ref q2, .int (pg_I 1), .int (pg_I 0), .int (pg_I 1), .int (pg_I 1), .int (pg_I 0), .int (pg_I 0)])), (q1, .inl (K.1, 12, .inl (fun _ => pg_I 0))), (q2, .inl (K.1, 12, .inl (fun _ => pg_I 0)))] := hD
  refine lv_aload_n hx hb (by decide +kernel : decode prog_9_method_1_code 40 = .ok (.aload_n 0, 1)) rfl (lv_at hl 0 rfl) ?_
  refine lv_iconst (v := pg_I (-1)) hx hb (by decide +kernel : decode prog_9_method_1_code 41 = .ok (.iconst (-1), 1)) rfl ?_
  refine va_put (D := D) (ci := 4) (v := .int (pg_I (-1))) (ty := .int) (C := pgR4) (T := pgT4) (N := 10) hx hb hts pgV4 pgY4 pgY4_ok pgN4 hown hK hP hD hS 0 rfl rfl 8 (by decide) (hts (.fieldLink pgR4 31 pgR4 "changes" "I") (pg_tb_in 189 rfl rfl)) (fun _ h9 => h9) rfl (by decide +kernel) rfl rfl (Nat.le_of_ble_eq_true rfl) (by decide +kernel : decode prog_9_method_1_code 42 = .ok (.putfield 31, 3)) (fun H locs hP hD hS => ?_)
  have hP : va_P D pgCl [(a0, .inr (4, [.null, .null, .ref q1, .ref q2, .int (pg_I 1), .int (pg_I 0), .int (pg_I 1), .int (pg_I 1), .int (pg_I (-1)), .int (pg_I 0)])), (q1, .inl (K.1, 12, .inl (fun _ => pg_I 0))), (q2, .inl (K.1, 12, .inl (fun _ => pg_I 0)))] H := hP
  have hD : va_D A [(a0, .inr (4, [.null, .null, .ref q1, .ref q2, .int (pg_I 1), .int (pg_I 0), .int (pg_I 1), .int (pg_I 1), .int (pg_I (-1)), .int (pg_I 0)])), (q1, .inl (K.1, 12, .inl (fun _ => pg_I 0))), (q2, .inl (K.1, 12, .inl (fun _ => pg_I 0)))] := hD
  refine lv_aload_n hx hb (by decide +kernel : decode prog_9_method_1_code 45 = .ok (.aload_n 0, 1)) rfl (lv_at hl 0 rfl) ?_
  refine lv_iconst (v := pg_I 0) hx hb (by decide +kernel : decode prog_9_method_1_code 46 = .ok (.iconst 0, 1)) rfl ?_
  refine va_put (D := D) (ci := 4) (v := .int (pg_I 0)) (ty := .boolean) (C := pgR4) (T := pgT4) (N := 10) hx hb hts pgV4 pgY4 pgY4_ok pgN4 hown hK hP hD hS 0 rfl rfl 9 (by decide) (hts (.fieldLink pgR4 34 pgR4 "known" "Z") (pg_tb_in 191 rfl rfl)) (fun _ h9 => h9) rfl (by decide +kernel) (by decide +kernel) (by decide +kernel) (Nat.le_of_ble_eq_true rfl) (by decide +kernel : decode prog_9_method_1_code 47 = .ok (.putfield 34, 3)) (fun H locs hP hD hS => ?_)
  have hP : va_P D pgCl [(a0, .inr (4, [.null, .null, .ref q1, .ref q2, .int (pg_I 1), .int (pg_I 0), .int (pg_I 1), .int (pg_I 1), .int (pg_I (-1)), .int (pg_I 0)])), (q1, .inl (K.1, 12, .inl (fun _ => pg_I 0))), (q2, .inl (K.1, 12, .inl (fun _ => pg_I 0)))] H := hP
  have hD : va_D A [(a0, .inr (4, [.null, .null, .ref q1, .ref q2, .int (pg_I 1), .int (pg_I 0), .int (pg_I 1), .int (pg_I 1), .int (pg_I (-1)), .int (pg_I 0)])), (q1, .inl (K.1, 12, .inl (fun _ => pg_I 0))), (q2, .inl (K.1, 12, .inl (fun _ => pg_I 0)))] := hD
  refine lv_aload_n hx hb (by decide +kernel : decode prog_9_method_1_code 50 = .ok (.aload_n 0, 1)) rfl (lv_at hl 0 rfl) ?_
  refine lv_aload_n hx hb (by decide +kernel : decode prog_9_method_1_code 51 = .ok (.aload_n 1, 1)) rfl (lv_at hl 1 rfl) ?_
  refine va_putF (D := D) (ci := 4) (v := .ref r1) (ty := .object "PlaneGroups$Moves") (C := pgR4) (T := pgT4) (N := 10) hx hb hts pgV4 pgY4 pgY4_ok pgN4 hown hK hP hD hS 0 rfl rfl 0 (by decide) (hts (.fieldLink pgR4 38 pgR4 "moves" "LPlaneGroups$Moves;") (pg_tb_in 166 rfl rfl)) (fun _ h9 => h9) rfl hin rfl (by decide +kernel) rfl rfl (Nat.le_of_ble_eq_true rfl) (by decide +kernel : decode prog_9_method_1_code 52 = .ok (.putfield 38, 3)) (fun H locs hP hD hS => ?_)
  have hP : va_P D pgCl [(a0, .inr (4, [.ref r1, .null, .ref q1, .ref q2, .int (pg_I 1), .int (pg_I 0), .int (pg_I 1), .int (pg_I 1), .int (pg_I (-1)), .int (pg_I 0)])), (q1, .inl (K.1, 12, .inl (fun _ => pg_I 0))), (q2, .inl (K.1, 12, .inl (fun _ => pg_I 0)))] H := hP
  have hD : va_D A [(a0, .inr (4, [.ref r1, .null, .ref q1, .ref q2, .int (pg_I 1), .int (pg_I 0), .int (pg_I 1), .int (pg_I 1), .int (pg_I (-1)), .int (pg_I 0)])), (q1, .inl (K.1, 12, .inl (fun _ => pg_I 0))), (q2, .inl (K.1, 12, .inl (fun _ => pg_I 0)))] := hD
  refine lv_aload_n hx hb (by decide +kernel : decode prog_9_method_1_code 55 = .ok (.aload_n 0, 1)) rfl (lv_at hl 0 rfl) ?_
  refine lv_aload_n hx hb (by decide +kernel : decode prog_9_method_1_code 56 = .ok (.aload_n 2, 1)) rfl (lv_at hl 2 rfl) ?_
  refine va_putF (D := D) (ci := 4) (v := .ref r2) (ty := .object "PlaneGroups$Picture") (C := pgR4) (T := pgT4) (N := 10) hx hb hts pgV4 pgY4 pgY4_ok pgN4 hown hK hP hD hS 0 rfl rfl 1 (by decide) (hts (.fieldLink pgR4 42 pgR4 "picture" "LPlaneGroups$Picture;") (pg_tb_in 167 rfl rfl)) (fun _ h9 => h9) rfl hin rfl (by decide +kernel) rfl rfl (Nat.le_of_ble_eq_true rfl) (by decide +kernel : decode prog_9_method_1_code 57 = .ok (.putfield 42, 3)) (fun H locs hP hD hS => ?_)
  have hP : va_P D pgCl [(a0, .inr (4, [.ref r1, .ref r2, .ref q1, .ref q2, .int (pg_I 1), .int (pg_I 0), .int (pg_I 1), .int (pg_I 1), .int (pg_I (-1)), .int (pg_I 0)])), (q1, .inl (K.1, 12, .inl (fun _ => pg_I 0))), (q2, .inl (K.1, 12, .inl (fun _ => pg_I 0)))] H := hP
  have hD : va_D A [(a0, .inr (4, [.ref r1, .ref r2, .ref q1, .ref q2, .int (pg_I 1), .int (pg_I 0), .int (pg_I 1), .int (pg_I 1), .int (pg_I (-1)), .int (pg_I 0)])), (q1, .inl (K.1, 12, .inl (fun _ => pg_I 0))), (q2, .inl (K.1, 12, .inl (fun _ => pg_I 0)))] := hD
  exact W.vret hx hb hr (fun t ht hW => ⟨⟨(), rfl, trivial, q1, q2, by rw [ht]; exact hP, hD⟩, hS.F ht⟩) hS.2.2 (by decide +kernel : decode prog_9_method_1_code 60 = .ok (.return_, 1))
def ki_y5 : MethodName := ⟨pgR5, "<init>", "(LPlaneGroups$Moves;LPlaneGroups$Symmetries;)V"⟩
set_option maxHeartbeats 4000000 in
set_option maxRecDepth 100000 in
theorem ki_O (l : Launch) (K : pg_K3) (D : va_G) (a0 r1 r2 sz : Nat) : Met l ki_y5 (Cond.code ki_y5 prog_6_method_1_code 3 none :: pg_tb) { frames := 1, cells := 1, slots := 144, locals := 20 } (va_Pc [.ref a0, .ref r1, .ref r2] (fun U => U.heap.size = sz ∧ va_P D pgCl [(a0, .inr (5, [.null, .null, .null, .int (pg_I 0), .int (pg_I 0)]))] U.heap ∧ va_K D pgCl (pg_tys K) U ∧ va_D (fun _ => True) [(a0, .inr (5, [.null, .null, .null, .int (pg_I 0), .int (pg_I 0)]))])) (va_Qv (fun _ : Unit => True) (fun _ t => ∃ q1 : Nat, va_P D pgCl [(a0, .inr (5, [.ref r1, .ref r2, .ref q1, .int (pg_I 0), .int (pg_I 0)])), (q1, .inl (K.1, 144, .inl (fun _ => pg_I 0)))] t.heap ∧ va_D (va_A [(a0, .inr (5, [.null, .null, .null, .int (pg_I 0), .int (pg_I 0)]))] sz) [(a0, .inr (5, [.ref r1, .ref r2, .ref q1, .int (pg_I 0), .int (pg_I 0)])), (q1, .inl (K.1, 144, .inl (fun _ => pg_I 0)))]) (va_A [(a0, .inr (5, [.null, .null, .null, .int (pg_I 0), .int (pg_I 0)]))] sz)) 1 144 (va_A [(a0, .inr (5, [.null, .null, .null, .int (pg_I 0), .int (pg_I 0)]))] sz) := by
  refine pg_ofW (cc := prog_6_method_1_code) (maxL := 3) (ret := none) (by decide +kernel) rfl ?_
  intro p e s m args below meth c s₁ B hml hv
  show W p l e { frames := 1, cells := 1, slots := 144, locals := 20 } s m args below meth c s.heap [] 0 0 _ _
  obtain ⟨rfl, hsz, hP, hK, hD0⟩ := hv
  have hx := B.exec
  have hb := B.bytes
  have hr := B.returns
  have hts0 := atoms_spec (ws := Cond.code ki_y5 prog_6_method_1_code 3 none :: pg_tb) B.pre
  have hts : ∀ w ∈ pg_tb, w.before _ s = true := fun w hw => hts0 w (List.mem_cons_of_mem _ hw)
  have hown : s.vm.findClass pgR5 = some m.cls := findClass_of_methodNamed B.named
  have hlocks := B.notSynchronized
  have hin : meth.name = "<init>" := (name_of_methodNamed B.named B.method).1
  subst hsz
  have hD := hD0.self (sz := s.heap.size)
  generalize hAe : va_A [(a0, .inr (5, [.null, .null, .null, .int (pg_I 0), .int (pg_I 0)]))] s.heap.size = A at hD ⊢
  have hA : ∀ q : Nat, s.heap.size ≤ q → A q := fun q h => by rw [← hAe]; exact Or.inr h
  have hS : va_S A s.heap s.heap [] := va_S.rf
  have hl := lv_entry ([.ref a0, .ref r1, .ref r2]) (n := 3) (Nat.le_of_ble_eq_true rfl)
  rw [lg_entry_eq]
  generalize (lg_sl ([.ref a0, .ref r1, .ref r2]) ++ List.replicate (3 - (lg_sl ([.ref a0, .ref r1, .ref r2])).length) Slot.unset).toArray = ls at hl ⊢
  have hl : lv_has ls 3 [(0, .ref a0), (1, .ref r1), (2, .ref r2)] := hl
  have hP : va_P D pgCl [(a0, .inr (5, [.null, .null, .null, .int (pg_I 0), .int (pg_I 0)]))] s.heap := hP
  refine lv_aload_n hx hb (by decide +kernel : decode prog_6_method_1_code 0 = .ok (.aload_n 0, 1)) rfl (lv_at hl 0 rfl) ?_
  refine W.objInit hx hb hown (hts (.methodLink pgR5 3 objectInit) (pg_tb_in 219 rfl rfl)) (hts (.instanceMethod objectInit) (pg_tb_in 86 rfl rfl)) (hts _ (pg_tb_in 87 rfl rfl)) rfl (by rw [hml]; exact hl.1) rfl (by decide +kernel : decode prog_6_method_1_code 1 = .ok (.invokespecial 3, 3)) (Nat.le_of_ble_eq_true rfl) (Nat.le_of_ble_eq_true rfl) ?_
  refine W.eq (g2 := F0 m 4 ls []) rfl ?_
  refine lv_aload_n hx hb (by decide +kernel : decode prog_6_method_1_code 4 = .ok (.aload_n 0, 1)) rfl (lv_at hl 0 rfl) ?_
  refine lv_sipush (v := pg_I 144) hx hb (by decide +kernel : decode prog_6_method_1_code 5 = .ok (.sipush 144, 3)) (pg_si 144 (by decide) (by decide)) ?_
  have hc_ : 0 + 1 ≤ 1 := by omega
  have hs_ : 0 + 144 ≤ 144 := by omega
  refine pg_newa (D := D) (atype := .int) (cA := K.1) (N' := 144) (a0 := (144, .inl (fun _ => pg_I 0))) (ty := .int) hx hb (hts (.arrayClass .int) (pg_tb_in 108 rfl rfl)) rfl (hK.2 0 _ rfl).2 hP hD hS hA rfl (by decide +kernel) (by decide +kernel) (by decide +kernel) hc_ hs_ (by decide +kernel : decode prog_6_method_1_code 8 = .ok (.newarray .int, 2)) (fun q1 H hP hD hS => ?_)
  have hP : va_P D pgCl [(a0, .inr (5, [.null, .null, .null, .int (pg_I 0), .int (pg_I 0)])), (q1, .inl (K.1, 144, .inl (fun _ => pg_I 0)))] H := hP
  have hD : va_D A [(a0, .inr (5, [.null, .null, .null, .int (pg_I 0), .int (pg_I 0)])), (q1, .inl (K.1, 144, .inl (fun _ => pg_I 0)))] := hD
  refine W.widen (k := 1) (n := 144) (by omega) (by omega) ?_
  refine va_putF (D := D) (ci := 5) (v := .ref q1) (ty := .array .int) (C := pgR5) (T := pgT5) (N := 5) hx hb hts pgV5 pgY5 pgY5_ok pgN5 hown hK hP hD hS 0 rfl rfl 2 (by decide) (hts (.fieldLink pgR5 9 pgR5 "firsts" "[I") (pg_tb_in 222 rfl rfl)) (fun _ h9 => h9) rfl hin rfl (by decide +kernel) rfl rfl (Nat.le_of_ble_eq_true rfl) (by decide +kernel : decode prog_6_method_1_code 10 = .ok (.putfield 9, 3)) (fun H locs hP hD hS => ?_)
  have hP : va_P D pgCl [(a0, .inr (5, [.null, .null, .ref q1, .int (pg_I 0), .int (pg_I 0)])), (q1, .inl (K.1, 144, .inl (fun _ => pg_I 0)))] H := hP
  have hD : va_D A [(a0, .inr (5, [.null, .null, .ref q1, .int (pg_I 0), .int (pg_I 0)])), (q1, .inl (K.1, 144, .inl (fun _ => pg_I 0)))] := hD
  refine lv_aload_n hx hb (by decide +kernel : decode prog_6_method_1_code 13 = .ok (.aload_n 0, 1)) rfl (lv_at hl 0 rfl) ?_
  refine lv_iconst (v := pg_I 0) hx hb (by decide +kernel : decode prog_6_method_1_code 14 = .ok (.iconst 0, 1)) rfl ?_
  refine va_put (D := D) (ci := 5) (v := .int (pg_I 0)) (ty := .int) (C := pgR5) (T := pgT5) (N := 5) hx hb hts pgV5 pgY5 pgY5_ok pgN5 hown hK hP hD hS 0 rfl rfl 3 (by decide) (hts (.fieldLink pgR5 15 pgR5 "found" "I") (pg_tb_in 223 rfl rfl)) (fun _ h9 => h9) rfl (by decide +kernel) rfl rfl (Nat.le_of_ble_eq_true rfl) (by decide +kernel : decode prog_6_method_1_code 15 = .ok (.putfield 15, 3)) (fun H locs hP hD hS => ?_)
  have hP : va_P D pgCl [(a0, .inr (5, [.null, .null, .ref q1, .int (pg_I 0), .int (pg_I 0)])), (q1, .inl (K.1, 144, .inl (fun _ => pg_I 0)))] H := hP
  have hD : va_D A [(a0, .inr (5, [.null, .null, .ref q1, .int (pg_I 0), .int (pg_I 0)])), (q1, .inl (K.1, 144, .inl (fun _ => pg_I 0)))] := hD
  refine lv_aload_n hx hb (by decide +kernel : decode prog_6_method_1_code 18 = .ok (.aload_n 0, 1)) rfl (lv_at hl 0 rfl) ?_
  refine lv_iconst (v := pg_I 0) hx hb (by decide +kernel : decode prog_6_method_1_code 19 = .ok (.iconst 0, 1)) rfl ?_
  refine va_put (D := D) (ci := 5) (v := .int (pg_I 0)) (ty := .boolean) (C := pgR5) (T := pgT5) (N := 5) hx hb hts pgV5 pgY5 pgY5_ok pgN5 hown hK hP hD hS 0 rfl rfl 4 (by decide) (hts (.fieldLink pgR5 19 pgR5 "known" "Z") (pg_tb_in 224 rfl rfl)) (fun _ h9 => h9) rfl (by decide +kernel) (by decide +kernel) (by decide +kernel) (Nat.le_of_ble_eq_true rfl) (by decide +kernel : decode prog_6_method_1_code 20 = .ok (.putfield 19, 3)) (fun H locs hP hD hS => ?_)
  have hP : va_P D pgCl [(a0, .inr (5, [.null, .null, .ref q1, .int (pg_I 0), .int (pg_I 0)])), (q1, .inl (K.1, 144, .inl (fun _ => pg_I 0)))] H := hP
  have hD : va_D A [(a0, .inr (5, [.null, .null, .ref q1, .int (pg_I 0), .int (pg_I 0)])), (q1, .inl (K.1, 144, .inl (fun _ => pg_I 0)))] := hD
  refine lv_aload_n hx hb (by decide +kernel : decode prog_6_method_1_code 23 = .ok (.aload_n 0, 1)) rfl (lv_at hl 0 rfl) ?_
  refine lv_aload_n hx hb (by decide +kernel : decode prog_6_method_1_code 24 = .ok (.aload_n 1, 1)) rfl (lv_at hl 1 rfl) ?_
  refine va_putF (D := D) (ci := 5) (v := .ref r1) (ty := .object "PlaneGroups$Moves") (C := pgR5) (T := pgT5) (N := 5) hx hb hts pgV5 pgY5 pgY5_ok pgN5 hown hK hP hD hS 0 rfl rfl 0 (by decide) (hts (.fieldLink pgR5 23 pgR5 "moves" "LPlaneGroups$Moves;") (pg_tb_in 220 rfl rfl)) (fun _ h9 => h9) rfl hin rfl (by decide +kernel) rfl rfl (Nat.le_of_ble_eq_true rfl) (by decide +kernel : decode prog_6_method_1_code 25 = .ok (.putfield 23, 3)) (fun H locs hP hD hS => ?_)
  have hP : va_P D pgCl [(a0, .inr (5, [.ref r1, .null, .ref q1, .int (pg_I 0), .int (pg_I 0)])), (q1, .inl (K.1, 144, .inl (fun _ => pg_I 0)))] H := hP
  have hD : va_D A [(a0, .inr (5, [.ref r1, .null, .ref q1, .int (pg_I 0), .int (pg_I 0)])), (q1, .inl (K.1, 144, .inl (fun _ => pg_I 0)))] := hD
  refine lv_aload_n hx hb (by decide +kernel : decode prog_6_method_1_code 28 = .ok (.aload_n 0, 1)) rfl (lv_at hl 0 rfl) ?_
  refine lv_aload_n hx hb (by decide +kernel : decode prog_6_method_1_code 29 = .ok (.aload_n 2, 1)) rfl (lv_at hl 2 rfl) ?_
  refine va_putF (D := D) (ci := 5) (v := .ref r2) (ty := .object "PlaneGroups$Symmetries") (C := pgR5) (T := pgT5) (N := 5) hx hb hts pgV5 pgY5 pgY5_ok pgN5 hown hK hP hD hS 0 rfl rfl 1 (by decide) (hts (.fieldLink pgR5 27 pgR5 "symmetries" "LPlaneGroups$Symmetries;") (pg_tb_in 221 rfl rfl)) (fun _ h9 => h9) rfl hin rfl (by decide +kernel) rfl rfl (Nat.le_of_ble_eq_true rfl) (by decide +kernel : decode prog_6_method_1_code 30 = .ok (.putfield 27, 3)) (fun H locs hP hD hS => ?_)
  have hP : va_P D pgCl [(a0, .inr (5, [.ref r1, .ref r2, .ref q1, .int (pg_I 0), .int (pg_I 0)])), (q1, .inl (K.1, 144, .inl (fun _ => pg_I 0)))] H := hP
  have hD : va_D A [(a0, .inr (5, [.ref r1, .ref r2, .ref q1, .int (pg_I 0), .int (pg_I 0)])), (q1, .inl (K.1, 144, .inl (fun _ => pg_I 0)))] := hD
  exact W.vret hx hb hr (fun t ht hW => ⟨⟨(), rfl, trivial, q1, by rw [ht]; exact hP, hD⟩, hS.F ht⟩) hS.2.2 (by decide +kernel : decode prog_6_method_1_code 33 = .ok (.return_, 1))
def ki_y6 : MethodName := ⟨pgR6, "<init>", "(LPlaneGroups$Moves;LPlaneGroups$Symmetries;LPlaneGroups$Reached;)V"⟩
set_option maxHeartbeats 4000000 in
set_option maxRecDepth 100000 in
theorem ki_G (l : Launch) (K : pg_K3) (D : va_G) (a0 r1 r2 r3 sz : Nat) : Met l ki_y6 (Cond.code ki_y6 prog_8_method_1_code 4 none :: pg_tb) { frames := 1, cells := 2, slots := 14, locals := 20 } (va_Pc [.ref a0, .ref r1, .ref r2, .ref r3] (fun U => U.heap.size = sz ∧ va_P D pgCl [(a0, .inr (6, [.null, .null, .null, .null, .null, .int (pg_I 0), .int (pg_I 0), .int (pg_I 0), .int (pg_I 0), .int (pg_I 0), .int (pg_I 0), .int (pg_I 0)]))] U.heap ∧ va_K D pgCl (pg_tys K) U ∧ va_D (fun _ => True) [(a0, .inr (6, [.null, .null, .null, .null, .null, .int (pg_I 0), .int (pg_I 0), .int (pg_I 0), .int (pg_I 0), .int (pg_I 0), .int (pg_I 0), .int (pg_I 0)]))])) (va_Qv (fun _ : Unit => True) (fun _ t => ∃ q1 q2 : Nat, va_P D pgCl [(a0, .inr (6, [.ref r1, .ref r2, .ref r3, .ref q1, .ref q2, .int (pg_I 6), .int (pg_I 6), .int (pg_I 0), .int (pg_I 0), .int (pg_I 0), .int (pg_I 1), .int (pg_I 0)])), (q1, .inl (K.1, 7, .inl (fun _ => pg_I 0))), (q2, .inl (K.1, 7, .inl (fun _ => pg_I 0)))] t.heap ∧ va_D (va_A [(a0, .inr (6, [.null, .null, .null, .null, .null, .int (pg_I 0), .int (pg_I 0), .int (pg_I 0), .int (pg_I 0), .int (pg_I 0), .int (pg_I 0), .int (pg_I 0)]))] sz) [(a0, .inr (6, [.ref r1, .ref r2, .ref r3, .ref q1, .ref q2, .int (pg_I 6), .int (pg_I 6), .int (pg_I 0), .int (pg_I 0), .int (pg_I 0), .int (pg_I 1), .int (pg_I 0)])), (q1, .inl (K.1, 7, .inl (fun _ => pg_I 0))), (q2, .inl (K.1, 7, .inl (fun _ => pg_I 0)))]) (va_A [(a0, .inr (6, [.null, .null, .null, .null, .null, .int (pg_I 0), .int (pg_I 0), .int (pg_I 0), .int (pg_I 0), .int (pg_I 0), .int (pg_I 0), .int (pg_I 0)]))] sz)) 2 14 (va_A [(a0, .inr (6, [.null, .null, .null, .null, .null, .int (pg_I 0), .int (pg_I 0), .int (pg_I 0), .int (pg_I 0), .int (pg_I 0), .int (pg_I 0), .int (pg_I 0)]))] sz) := by
  refine pg_ofW (cc := prog_8_method_1_code) (maxL := 4) (ret := none) (by decide +kernel) rfl ?_
  intro p e s m args below meth c s₁ B hml hv
  show W p l e { frames := 1, cells := 2, slots := 14, locals := 20 } s m args below meth c s.heap [] 0 0 _ _
  obtain ⟨rfl, hsz, hP, hK, hD0⟩ := hv
  have hx := B.exec
  have hb := B.bytes
  have hr := B.returns
  have hts0 := atoms_spec (ws := Cond.code ki_y6 prog_8_method_1_code 4 none :: pg_tb) B.pre
  have hts : ∀ w ∈ pg_tb, w.before _ s = true := fun w hw => hts0 w (List.mem_cons_of_mem _ hw)
  have hown : s.vm.findClass pgR6 = some m.cls := findClass_of_methodNamed B.named
  have hlocks := B.notSynchronized
  have hin : meth.name = "<init>" := (name_of_methodNamed B.named B.method).1
  subst hsz
  have hD := hD0.self (sz := s.heap.size)
  generalize hAe : va_A [(a0, .inr (6, [.null, .null, .null, .null, .null, .int (pg_I 0), .int (pg_I 0), .int (pg_I 0), .int (pg_I 0), .int (pg_I 0), .int (pg_I 0), .int (pg_I 0)]))] s.heap.size = A at hD ⊢
  have hA : ∀ q : Nat, s.heap.size ≤ q → A q := fun q h => by rw [← hAe]; exact Or.inr h
  have hS : va_S A s.heap s.heap [] := va_S.rf
  have hl := lv_entry ([.ref a0, .ref r1, .ref r2, .ref r3]) (n := 4) (Nat.le_of_ble_eq_true rfl)
  rw [lg_entry_eq]
  generalize (lg_sl ([.ref a0, .ref r1, .ref r2, .ref r3]) ++ List.replicate (4 - (lg_sl ([.ref a0, .ref r1, .ref r2, .ref r3])).length) Slot.unset).toArray = ls at hl ⊢
  have hl : lv_has ls 4 [(0, .ref a0), (1, .ref r1), (2, .ref r2), (3, .ref r3)] := hl
  have hP : va_P D pgCl [(a0, .inr (6, [.null, .null, .null, .null, .null, .int (pg_I 0), .int (pg_I 0), .int (pg_I 0), .int (pg_I 0), .int (pg_I 0), .int (pg_I 0), .int (pg_I 0)]))] s.heap := hP
  refine lv_aload_n hx hb (by decide +kernel : decode prog_8_method_1_code 0 = .ok (.aload_n 0, 1)) rfl (lv_at hl 0 rfl) ?_
  refine W.objInit hx hb hown (hts (.methodLink pgR6 3 objectInit) (pg_tb_in 242 rfl rfl)) (hts (.instanceMethod objectInit) (pg_tb_in 86 rfl rfl)) (hts _ (pg_tb_in 87 rfl rfl)) rfl (by rw [hml]; exact hl.1) rfl (by decide +kernel : decode prog_8_method_1_code 1 = .ok (.invokespecial 3, 3)) (Nat.le_of_ble_eq_true rfl) (Nat.le_of_ble_eq_true rfl) ?_
  refine W.eq (g2 := F0 m 4 ls []) rfl ?_
  refine lv_aload_n hx hb (by decide +kernel : decode prog_8_method_1_code 4 = .ok (.aload_n 0, 1)) rfl (lv_at hl 0 rfl) ?_
  refine lv_bipush (v := pg_I 7) hx hb (by decide +kernel : decode prog_8_method_1_code 5 = .ok (.bipush 7, 2)) (pg_bi 7 (by decide) (by decide)) ?_
  have hc_ : 0 + 1 ≤ 2 := by omega
  have hs_ : 0 + 7 ≤ 14 := by omega
  refine pg_newa (D := D) (atype := .int) (cA := K.1) (N' := 7) (a0 := (7, .inl (fun _ => pg_I 0))) (ty := .int) hx hb (hts (.arrayClass .int) (pg_tb_in 108 rfl rfl)) rfl (hK.2 0 _ rfl).2 hP hD hS hA rfl (by decide +kernel) (by decide +kernel) (by decide +kernel) hc_ hs_ (by decide +kernel : decode prog_8_method_1_code 7 = .ok (.newarray .int, 2)) (fun q1 H hP hD hS => ?_)
  have hP : va_P D pgCl [(a0, .inr (6, [.null, .null, .null, .null, .null, .int (pg_I 0), .int (pg_I 0), .int (pg_I 0), .int (pg_I 0), .int (pg_I 0), .int (pg_I 0), .int (pg_I 0)])), (q1, .inl (K.1, 7, .inl (fun _ => pg_I 0)))] H := hP
  have hD : va_D A [(a0, .inr (6, [.null, .null, .null, .null, .null, .int (pg_I 0), .int (pg_I 0), .int (pg_I 0), .int (pg_I 0), .int (pg_I 0), .int (pg_I 0), .int (pg_I 0)])), (q1, .inl (K.1, 7, .inl (fun _ => pg_I 0)))] := hD
  refine W.widen (k := 1) (n := 7) (by omega) (by omega) ?_
  refine va_putF (D := D) (ci := 6) (v := .ref q1) (ty := .array .int) (C := pgR6) (T := pgT6) (N := 12) hx hb hts pgV6 pgY6 pgY6_ok pgN6 hown hK hP hD hS 0 rfl rfl 3 (by decide) (hts (.fieldLink pgR6 9 pgR6 "cones" "[I") (pg_tb_in 246 rfl rfl)) (fun _ h9 => h9) rfl hin rfl (by decide +kernel) rfl rfl (Nat.le_of_ble_eq_true rfl) (by decide +kernel : decode prog_8_method_1_code 9 = .ok (.putfield 9, 3)) (fun H locs hP hD hS => ?_)
  have hP : va_P D pgCl [(a0, .inr (6, [.null, .null, .null, .ref q1, .null, .int (pg_I 0), .int (pg_I 0), .int (pg_I 0), .int (pg_I 0), .int (pg_I 0), .int (pg_I 0), .int (pg_I 0)])), (q1, .inl (K.1, 7, .inl (fun _ => pg_I 0)))] H := hP
  have hD : va_D A [(a0, .inr (6, [.null, .null, .null, .ref q1, .null, .int (pg_I 0), .int (pg_I 0), .int (pg_I 0), .int (pg_I 0), .int (pg_I 0), .int (pg_I 0), .int (pg_I 0)])), (q1, .inl (K.1, 7, .inl (fun _ => pg_I 0)))] := hD
  refine lv_aload_n hx hb (by decide +kernel : decode prog_8_method_1_code 12 = .ok (.aload_n 0, 1)) rfl (lv_at hl 0 rfl) ?_
  refine lv_bipush (v := pg_I 7) hx hb (by decide +kernel : decode prog_8_method_1_code 13 = .ok (.bipush 7, 2)) (pg_bi 7 (by decide) (by decide)) ?_
  have hc_ : 1 + 1 ≤ 2 := by omega
  have hs_ : 7 + 7 ≤ 14 := by omega
  refine pg_newa (D := D) (atype := .int) (cA := K.1) (N' := 7) (a0 := (7, .inl (fun _ => pg_I 0))) (ty := .int) hx hb (hts (.arrayClass .int) (pg_tb_in 108 rfl rfl)) rfl (hK.2 0 _ rfl).2 hP hD hS hA rfl (by decide +kernel) (by decide +kernel) (by decide +kernel) hc_ hs_ (by decide +kernel : decode prog_8_method_1_code 15 = .ok (.newarray .int, 2)) (fun q2 H hP hD hS => ?_)
  have hP : va_P D pgCl [(a0, .inr (6, [.null, .null, .null, .ref q1, .null, .int (pg_I 0), .int (pg_I 0), .int (pg_I 0), .int (pg_I 0), .int (pg_I 0), .int (pg_I 0), .int (pg_I 0)])), (q1, .inl (K.1, 7, .inl (fun _ => pg_I 0))), (q2, .inl (K.1, 7, .inl (fun _ => pg_I 0)))] H := hP
  have hD : va_D A [(a0, .inr (6, [.null, .null, .null, .ref q1, .null, .int (pg_I 0), .int (pg_I 0), .int (pg_I 0), .int (pg_I 0), .int (pg_I 0), .int (pg_I 0), .int (pg_I 0)])), (q1, .inl (K.1, 7, .inl (fun _ => pg_I 0))), (q2, .inl (K.1, 7, .inl (fun _ => pg_I 0)))] := hD
  refine W.widen (k := 2) (n := 14) (by omega) (by omega) ?_
  refine va_putF (D := D) (ci := 6) (v := .ref q2) (ty := .array .int) (C := pgR6) (T := pgT6) (N := 12) hx hb hts pgV6 pgY6 pgY6_ok pgN6 hown hK hP hD hS 0 rfl rfl 4 (by decide) (hts (.fieldLink pgR6 15 pgR6 "corners" "[I") (pg_tb_in 248 rfl rfl)) (fun _ h9 => h9) rfl hin rfl (by decide +kernel) rfl rfl (Nat.le_of_ble_eq_true rfl) (by decide +kernel : decode prog_8_method_1_code 17 = .ok (.putfield 15, 3)) (fun H locs hP hD hS => ?_)
  have hP : va_P D pgCl [(a0, .inr (6, [.null, .null, .null, .ref q1, .ref q2, .int (pg_I 0), .int (pg_I 0), .int (pg_I 0), .int (pg_I 0), .int (pg_I 0), .int (pg_I 0), .int (pg_I 0)])), (q1, .inl (K.1, 7, .inl (fun _ => pg_I 0))), (q2, .inl (K.1, 7, .inl (fun _ => pg_I 0)))] H := hP
  have hD : va_D A [(a0, .inr (6, [.null, .null, .null, .ref q1, .ref q2, .int (pg_I 0), .int (pg_I 0), .int (pg_I 0), .int (pg_I 0), .int (pg_I 0), .int (pg_I 0), .int (pg_I 0)])), (q1, .inl (K.1, 7, .inl (fun _ => pg_I 0))), (q2, .inl (K.1, 7, .inl (fun _ => pg_I 0)))] := hD
  refine lv_aload_n hx hb (by decide +kernel : decode prog_8_method_1_code 20 = .ok (.aload_n 0, 1)) rfl (lv_at hl 0 rfl) ?_
  refine lv_bipush (v := pg_I 6) hx hb (by decide +kernel : decode prog_8_method_1_code 21 = .ok (.bipush 6, 2)) (pg_bi 6 (by decide) (by decide)) ?_
  refine va_put (D := D) (ci := 6) (v := .int (pg_I 6)) (ty := .int) (C := pgR6) (T := pgT6) (N := 12) hx hb hts pgV6 pgY6 pgY6_ok pgN6 hown hK hP hD hS 0 rfl rfl 5 (by decide) (hts (.fieldLink pgR6 18 pgR6 "width" "I") (pg_tb_in 250 rfl rfl)) (fun _ h9 => h9) rfl (by decide +kernel) rfl rfl (Nat.le_of_ble_eq_true rfl) (by decide +kernel : decode prog_8_method_1_code 23 = .ok (.putfield 18, 3)) (fun H locs hP hD hS => ?_)
  have hP : va_P D pgCl [(a0, .inr (6, [.null, .null, .null, .ref q1, .ref q2, .int (pg_I 6), .int (pg_I 0), .int (pg_I 0), .int (pg_I 0), .int (pg_I 0), .int (pg_I 0), .int (pg_I 0)])), (q1, .inl (K.1, 7, .inl (fun _ => pg_I 0))), (q2, .inl (K.1, 7, .inl (fun _ => pg_I 0)))] H := hP
  have hD : va_D A [(a0, .inr (6, [.null, .null, .null, .ref q1, .ref q2, .int (pg_I 6), .int (pg_I 0), .int (pg_I 0), .int (pg_I 0), .int (pg_I 0), .int (pg_I 0), .int (pg_I 0)])), (q1, .inl (K.1, 7, .inl (fun _ => pg_I 0))), (q2, .inl (K.1, 7, .inl (fun _ => pg_I 0)))] := hD
  refine lv_aload_n hx hb (by decide +kernel : decode prog_8_method_1_code 26 = .ok (.aload_n 0, 1)) rfl (lv_at hl 0 rfl) ?_
  refine lv_bipush (v := pg_I 6) hx hb (by decide +kernel : decode prog_8_method_1_code 27 = .ok (.bipush 6, 2)) (pg_bi 6 (by decide) (by decide)) ?_
  refine va_put (D := D) (ci := 6) (v := .int (pg_I 6)) (ty := .int) (C := pgR6) (T := pgT6) (N := 12) hx hb hts pgV6 pgY6 pgY6_ok pgN6 hown hK hP hD hS 0 rfl rfl 6 (by decide) (hts (.fieldLink pgR6 22 pgR6 "height" "I") (pg_tb_in 251 rfl rfl)) (fun _ h9 => h9) rfl (by decide +kernel) rfl rfl (Nat.le_of_ble_eq_true rfl) (by decide +kernel : decode prog_8_method_1_code 29 = .ok (.putfield 22, 3)) (fun H locs hP hD hS => ?_)
  have hP : va_P D pgCl [(a0, .inr (6, [.null, .null, .null, .ref q1, .ref q2, .int (pg_I 6), .int (pg_I 6), .int (pg_I 0), .int (pg_I 0), .int (pg_I 0), .int (pg_I 0), .int (pg_I 0)])), (q1, .inl (K.1, 7, .inl (fun _ => pg_I 0))), (q2, .inl (K.1, 7, .inl (fun _ => pg_I 0)))] H := hP
  have hD : va_D A [(a0, .inr (6, [.null, .null, .null, .ref q1, .ref q2, .int (pg_I 6), .int (pg_I 6), .int (pg_I 0), .int (pg_I 0), .int (pg_I 0), .int (pg_I 0), .int (pg_I 0)])), (q1, .inl (K.1, 7, .inl (fun _ => pg_I 0))), (q2, .inl (K.1, 7, .inl (fun _ => pg_I 0)))] := hD
  refine lv_aload_n hx hb (by decide +kernel : decode prog_8_method_1_code 32 = .ok (.aload_n 0, 1)) rfl (lv_at hl 0 rfl) ?_
  refine lv_iconst (v := pg_I 0) hx hb (by decide +kernel : decode prog_8_method_1_code 33 = .ok (.iconst 0, 1)) rfl ?_
  refine va_put (D := D) (ci := 6) (v := .int (pg_I 0)) (ty := .int) (C := pgR6) (T := pgT6) (N := 12) hx hb hts pgV6 pgY6 pgY6_ok pgN6 hown hK hP hD hS 0 rfl rfl 7 (by decide) (hts (.fieldLink pgR6 25 pgR6 "edges" "I") (pg_tb_in 252 rfl rfl)) (fun _ h9 => h9) rfl (by decide +kernel) rfl rfl (Nat.le_of_ble_eq_true rfl) (by decide +kernel : decode prog_8_method_1_code 34 = .ok (.putfield 25, 3)) (fun H locs hP hD hS => ?_)
  have hP : va_P D pgCl [(a0, .inr (6, [.null, .null, .null, .ref q1, .ref q2, .int (pg_I 6), .int (pg_I 6), .int (pg_I 0), .int (pg_I 0), .int (pg_I 0), .int (pg_I 0), .int (pg_I 0)])), (q1, .inl (K.1, 7, .inl (fun _ => pg_I 0))), (q2, .inl (K.1, 7, .inl (fun _ => pg_I 0)))] H := hP
  have hD : va_D A [(a0, .inr (6, [.null, .null, .null, .ref q1, .ref q2, .int (pg_I 6), .int (pg_I 6), .int (pg_I 0), .int (pg_I 0), .int (pg_I 0), .int (pg_I 0), .int (pg_I 0)])), (q1, .inl (K.1, 7, .inl (fun _ => pg_I 0))), (q2, .inl (K.1, 7, .inl (fun _ => pg_I 0)))] := hD
  refine lv_aload_n hx hb (by decide +kernel : decode prog_8_method_1_code 37 = .ok (.aload_n 0, 1)) rfl (lv_at hl 0 rfl) ?_
  refine lv_iconst (v := pg_I 0) hx hb (by decide +kernel : decode prog_8_method_1_code 38 = .ok (.iconst 0, 1)) rfl ?_
  refine va_put (D := D) (ci := 6) (v := .int (pg_I 0)) (ty := .int) (C := pgR6) (T := pgT6) (N := 12) hx hb hts pgV6 pgY6 pgY6_ok pgN6 hown hK hP hD hS 0 rfl rfl 8 (by decide) (hts (.fieldLink pgR6 28 pgR6 "crosses" "I") (pg_tb_in 254 rfl rfl)) (fun _ h9 => h9) rfl (by decide +kernel) rfl rfl (Nat.le_of_ble_eq_true rfl) (by decide +kernel : decode prog_8_method_1_code 39 = .ok (.putfield 28, 3)) (fun H locs hP hD hS => ?_)
  have hP : va_P D pgCl [(a0, .inr (6, [.null, .null, .null, .ref q1, .ref q2, .int (pg_I 6), .int (pg_I 6), .int (pg_I 0), .int (pg_I 0), .int (pg_I 0), .int (pg_I 0), .int (pg_I 0)])), (q1, .inl (K.1, 7, .inl (fun _ => pg_I 0))), (q2, .inl (K.1, 7, .inl (fun _ => pg_I 0)))] H := hP
  have hD : va_D A [(a0, .inr (6, [.null, .null, .null, .ref q1, .ref q2, .int (pg_I 6), .int (pg_I 6), .int (pg_I 0), .int (pg_I 0), .int (pg_I 0), .int (pg_I 0), .int (pg_I 0)])), (q1, .inl (K.1, 7, .inl (fun _ => pg_I 0))), (q2, .inl (K.1, 7, .inl (fun _ => pg_I 0)))] := hD
  refine lv_aload_n hx hb (by decide +kernel : decode prog_8_method_1_code 42 = .ok (.aload_n 0, 1)) rfl (lv_at hl 0 rfl) ?_
  refine lv_iconst (v := pg_I 0) hx hb (by decide +kernel : decode prog_8_method_1_code 43 = .ok (.iconst 0, 1)) rfl ?_
  refine va_put (D := D) (ci := 6) (v := .int (pg_I 0)) (ty := .int) (C := pgR6) (T := pgT6) (N := 12) hx hb hts pgV6 pgY6 pgY6_ok pgN6 hown hK hP hD hS 0 rfl rfl 9 (by decide) (hts (.fieldLink pgR6 31 pgR6 "handles" "I") (pg_tb_in 256 rfl rfl)) (fun _ h9 => h9) rfl (by decide +kernel) rfl rfl (Nat.le_of_ble_eq_true rfl) (by decide +kernel : decode prog_8_method_1_code 44 = .ok (.putfield 31, 3)) (fun H locs hP hD hS => ?_)
  have hP : va_P D pgCl [(a0, .inr (6, [.null, .null, .null, .ref q1, .ref q2, .int (pg_I 6), .int (pg_I 6), .int (pg_I 0), .int (pg_I 0), .int (pg_I 0), .int (pg_I 0), .int (pg_I 0)])), (q1, .inl (K.1, 7, .inl (fun _ => pg_I 0))), (q2, .inl (K.1, 7, .inl (fun _ => pg_I 0)))] H := hP
  have hD : va_D A [(a0, .inr (6, [.null, .null, .null, .ref q1, .ref q2, .int (pg_I 6), .int (pg_I 6), .int (pg_I 0), .int (pg_I 0), .int (pg_I 0), .int (pg_I 0), .int (pg_I 0)])), (q1, .inl (K.1, 7, .inl (fun _ => pg_I 0))), (q2, .inl (K.1, 7, .inl (fun _ => pg_I 0)))] := hD
  refine lv_aload_n hx hb (by decide +kernel : decode prog_8_method_1_code 47 = .ok (.aload_n 0, 1)) rfl (lv_at hl 0 rfl) ?_
  refine lv_iconst (v := pg_I 1) hx hb (by decide +kernel : decode prog_8_method_1_code 48 = .ok (.iconst 1, 1)) rfl ?_
  refine va_put (D := D) (ci := 6) (v := .int (pg_I 1)) (ty := .int) (C := pgR6) (T := pgT6) (N := 12) hx hb hts pgV6 pgY6 pgY6_ok pgN6 hown hK hP hD hS 0 rfl rfl 10 (by decide) (hts (.fieldLink pgR6 34 pgR6 "most" "I") (pg_tb_in 258 rfl rfl)) (fun _ h9 => h9) rfl (by decide +kernel) rfl rfl (Nat.le_of_ble_eq_true rfl) (by decide +kernel : decode prog_8_method_1_code 49 = .ok (.putfield 34, 3)) (fun H locs hP hD hS => ?_)
  have hP : va_P D pgCl [(a0, .inr (6, [.null, .null, .null, .ref q1, .ref q2, .int (pg_I 6), .int (pg_I 6), .int (pg_I 0), .int (pg_I 0), .int (pg_I 0), .int (pg_I 1), .int (pg_I 0)])), (q1, .inl (K.1, 7, .inl (fun _ => pg_I 0))), (q2, .inl (K.1, 7, .inl (fun _ => pg_I 0)))] H := hP
  have hD : va_D A [(a0, .inr (6, [.null, .null, .null, .ref q1, .ref q2, .int (pg_I 6), .int (pg_I 6), .int (pg_I 0), .int (pg_I 0), .int (pg_I 0), .int (pg_I 1), .int (pg_I 0)])), (q1, .inl (K.1, 7, .inl (fun _ => pg_I 0))), (q2, .inl (K.1, 7, .inl (fun _ => pg_I 0)))] := hD
  refine lv_aload_n hx hb (by decide +kernel : decode prog_8_method_1_code 52 = .ok (.aload_n 0, 1)) rfl (lv_at hl 0 rfl) ?_
  refine lv_iconst (v := pg_I 0) hx hb (by decide +kernel : decode prog_8_method_1_code 53 = .ok (.iconst 0, 1)) rfl ?_
  refine va_put (D := D) (ci := 6) (v := .int (pg_I 0)) (ty := .boolean) (C := pgR6) (T := pgT6) (N := 12) hx hb hts pgV6 pgY6 pgY6_ok pgN6 hown hK hP hD hS 0 rfl rfl 11 (by decide) (hts (.fieldLink pgR6 37 pgR6 "known" "Z") (pg_tb_in 259 rfl rfl)) (fun _ h9 => h9) rfl (by decide +kernel) (by decide +kernel) (by decide +kernel) (Nat.le_of_ble_eq_true rfl) (by decide +kernel : decode prog_8_method_1_code 54 = .ok (.putfield 37, 3)) (fun H locs hP hD hS => ?_)
  have hP : va_P D pgCl [(a0, .inr (6, [.null, .null, .null, .ref q1, .ref q2, .int (pg_I 6), .int (pg_I 6), .int (pg_I 0), .int (pg_I 0), .int (pg_I 0), .int (pg_I 1), .int (pg_I 0)])), (q1, .inl (K.1, 7, .inl (fun _ => pg_I 0))), (q2, .inl (K.1, 7, .inl (fun _ => pg_I 0)))] H := hP
  have hD : va_D A [(a0, .inr (6, [.null, .null, .null, .ref q1, .ref q2, .int (pg_I 6), .int (pg_I 6), .int (pg_I 0), .int (pg_I 0), .int (pg_I 0), .int (pg_I 1), .int (pg_I 0)])), (q1, .inl (K.1, 7, .inl (fun _ => pg_I 0))), (q2, .inl (K.1, 7, .inl (fun _ => pg_I 0)))] := hD
  refine lv_aload_n hx hb (by decide +kernel : decode prog_8_method_1_code 57 = .ok (.aload_n 0, 1)) rfl (lv_at hl 0 rfl) ?_
  refine lv_aload_n hx hb (by decide +kernel : decode prog_8_method_1_code 58 = .ok (.aload_n 1, 1)) rfl (lv_at hl 1 rfl) ?_
  refine va_putF (D := D) (ci := 6) (v := .ref r1) (ty := .object "PlaneGroups$Moves") (C := pgR6) (T := pgT6) (N := 12) hx hb hts pgV6 pgY6 pgY6_ok pgN6 hown hK hP hD hS 0 rfl rfl 0 (by decide) (hts (.fieldLink pgR6 41 pgR6 "moves" "LPlaneGroups$Moves;") (pg_tb_in 243 rfl rfl)) (fun _ h9 => h9) rfl hin rfl (by decide +kernel) rfl rfl (Nat.le_of_ble_eq_true rfl) (by decide +kernel : decode prog_8_method_1_code 59 = .ok (.putfield 41, 3)) (fun H locs hP hD hS => ?_)
  have hP : va_P D pgCl [(a0, .inr (6, [.ref r1, .null, .null, .ref q1, .ref q2, .int (pg_I 6), .int (pg_I 6), .int (pg_I 0), .int (pg_I 0), .int (pg_I 0), .int (pg_I 1), .int (pg_I 0)])), (q1, .inl (K.1, 7, .inl (fun _ => pg_I 0))), (q2, .inl (K.1, 7, .inl (fun _ => pg_I 0)))] H := hP
  have hD : va_D A [(a0, .inr (6, [.ref r1, .null, .null, .ref q1, .ref q2, .int (pg_I 6), .int (pg_I 6), .int (pg_I 0), .int (pg_I 0), .int (pg_I 0), .int (pg_I 1), .int (pg_I 0)])), (q1, .inl (K.1, 7, .inl (fun _ => pg_I 0))), (q2, .inl (K.1, 7, .inl (fun _ => pg_I 0)))] := hD
  refine lv_aload_n hx hb (by decide +kernel : decode prog_8_method_1_code 62 = .ok (.aload_n 0, 1)) rfl (lv_at hl 0 rfl) ?_
  refine lv_aload_n hx hb (by decide +kernel : decode prog_8_method_1_code 63 = .ok (.aload_n 2, 1)) rfl (lv_at hl 2 rfl) ?_
  refine va_putF (D := D) (ci := 6) (v := .ref r2) (ty := .object "PlaneGroups$Symmetries") (C := pgR6) (T := pgT6) (N := 12) hx hb hts pgV6 pgY6 pgY6_ok pgN6 hown hK hP hD hS 0 rfl rfl 1 (by decide) (hts (.fieldLink pgR6 45 pgR6 "symmetries" "LPlaneGroups$Symmetries;") (pg_tb_in 244 rfl rfl)) (fun _ h9 => h9) rfl hin rfl (by decide +kernel) rfl rfl (Nat.le_of_ble_eq_true rfl) (by decide +kernel : decode prog_8_method_1_code 64 = .ok (.putfield 45, 3)) (fun H locs hP hD hS => ?_)
  have hP : va_P D pgCl [(a0, .inr (6, [.ref r1, .ref r2, .null, .ref q1, .ref q2, .int (pg_I 6), .int (pg_I 6), .int (pg_I 0), .int (pg_I 0), .int (pg_I 0), .int (pg_I 1), .int (pg_I 0)])), (q1, .inl (K.1, 7, .inl (fun _ => pg_I 0))), (q2, .inl (K.1, 7, .inl (fun _ => pg_I 0)))] H := hP
  have hD : va_D A [(a0, .inr (6, [.ref r1, .ref r2, .null, .ref q1, .ref q2, .int (pg_I 6), .int (pg_I 6), .int (pg_I 0), .int (pg_I 0), .int (pg_I 0), .int (pg_I 1), .int (pg_I 0)])), (q1, .inl (K.1, 7, .inl (fun _ => pg_I 0))), (q2, .inl (K.1, 7, .inl (fun _ => pg_I 0)))] := hD
  refine lv_aload_n hx hb (by decide +kernel : decode prog_8_method_1_code 67 = .ok (.aload_n 0, 1)) rfl (lv_at hl 0 rfl) ?_
  refine lv_aload_n hx hb (by decide +kernel : decode prog_8_method_1_code 68 = .ok (.aload_n 3, 1)) rfl (lv_at hl 3 rfl) ?_
  refine va_putF (D := D) (ci := 6) (v := .ref r3) (ty := .object "PlaneGroups$Reached") (C := pgR6) (T := pgT6) (N := 12) hx hb hts pgV6 pgY6 pgY6_ok pgN6 hown hK hP hD hS 0 rfl rfl 2 (by decide) (hts (.fieldLink pgR6 49 pgR6 "mirrored" "LPlaneGroups$Reached;") (pg_tb_in 245 rfl rfl)) (fun _ h9 => h9) rfl hin rfl (by decide +kernel) rfl rfl (Nat.le_of_ble_eq_true rfl) (by decide +kernel : decode prog_8_method_1_code 69 = .ok (.putfield 49, 3)) (fun H locs hP hD hS => ?_)
  have hP : va_P D pgCl [(a0, .inr (6, [.ref r1, .ref r2, .ref r3, .ref q1, .ref q2, .int (pg_I 6), .int (pg_I 6), .int (pg_I 0), .int (pg_I 0), .int (pg_I 0), .int (pg_I 1), .int (pg_I 0)])), (q1, .inl (K.1, 7, .inl (fun _ => pg_I 0))), (q2, .inl (K.1, 7, .inl (fun _ => pg_I 0)))] H := hP
  have hD : va_D A [(a0, .inr (6, [.ref r1, .ref r2, .ref r3, .ref q1, .ref q2, .int (pg_I 6), .int (pg_I 6), .int (pg_I 0), .int (pg_I 0), .int (pg_I 0), .int (pg_I 1), .int (pg_I 0)])), (q1, .inl (K.1, 7, .inl (fun _ => pg_I 0))), (q2, .inl (K.1, 7, .inl (fun _ => pg_I 0)))] := hD
  exact W.vret hx hb hr (fun t ht hW => ⟨⟨(), rfl, trivial, q1, q2, by rw [ht]; exact hP, hD⟩, hS.F ht⟩) hS.2.2 (by decide +kernel : decode prog_8_method_1_code 72 = .ok (.return_, 1))
def ki_y7 : MethodName := ⟨pgR7, "<init>", "(LPlaneGroups$Moves;LPlaneGroups$Symmetries;LPlaneGroups$Reached;)V"⟩
set_option maxHeartbeats 4000000 in
set_option maxRecDepth 100000 in
theorem ki_H (l : Launch) (K : pg_K3) (D : va_G) (a0 r1 r2 r3 sz : Nat) : Met l ki_y7 (Cond.code ki_y7 prog_3_method_1_code 4 none :: pg_tb) { frames := 1, cells := 1, slots := 11, locals := 20 } (va_Pc [.ref a0, .ref r1, .ref r2, .ref r3] (fun U => U.heap.size = sz ∧ va_P D pgCl [(a0, .inr (7, [.null, .null, .null, .null, .int (pg_I 0), .int (pg_I 0), .int (pg_I 0)]))] U.heap ∧ va_K D pgCl (pg_tys K) U ∧ va_D (fun _ => True) [(a0, .inr (7, [.null, .null, .null, .null, .int (pg_I 0), .int (pg_I 0), .int (pg_I 0)]))])) (va_Qv (fun _ : Unit => True) (fun _ t => ∃ q1 : Nat, va_P D pgCl [(a0, .inr (7, [.ref r1, .ref r2, .ref r3, .ref q1, .int (pg_I 0), .int (pg_I 0), .int (pg_I 0)])), (q1, .inl (K.1, 11, .inl (fun _ => pg_I 0)))] t.heap ∧ va_D (va_A [(a0, .inr (7, [.null, .null, .null, .null, .int (pg_I 0), .int (pg_I 0), .int (pg_I 0)]))] sz) [(a0, .inr (7, [.ref r1, .ref r2, .ref r3, .ref q1, .int (pg_I 0), .int (pg_I 0), .int (pg_I 0)])), (q1, .inl (K.1, 11, .inl (fun _ => pg_I 0)))]) (va_A [(a0, .inr (7, [.null, .null, .null, .null, .int (pg_I 0), .int (pg_I 0), .int (pg_I 0)]))] sz)) 1 11 (va_A [(a0, .inr (7, [.null, .null, .null, .null, .int (pg_I 0), .int (pg_I 0), .int (pg_I 0)]))] sz) := by
  refine pg_ofW (cc := prog_3_method_1_code) (maxL := 4) (ret := none) (by decide +kernel) rfl ?_
  intro p e s m args below meth c s₁ B hml hv
  show W p l e { frames := 1, cells := 1, slots := 11, locals := 20 } s m args below meth c s.heap [] 0 0 _ _
  obtain ⟨rfl, hsz, hP, hK, hD0⟩ := hv
  have hx := B.exec
  have hb := B.bytes
  have hr := B.returns
  have hts0 := atoms_spec (ws := Cond.code ki_y7 prog_3_method_1_code 4 none :: pg_tb) B.pre
  have hts : ∀ w ∈ pg_tb, w.before _ s = true := fun w hw => hts0 w (List.mem_cons_of_mem _ hw)
  have hown : s.vm.findClass pgR7 = some m.cls := findClass_of_methodNamed B.named
  have hlocks := B.notSynchronized
  have hin : meth.name = "<init>" := (name_of_methodNamed B.named B.method).1
  subst hsz
  have hD := hD0.self (sz := s.heap.size)
  generalize hAe : va_A [(a0, .inr (7, [.null, .null, .null, .null, .int (pg_I 0), .int (pg_I 0), .int (pg_I 0)]))] s.heap.size = A at hD ⊢
  have hA : ∀ q : Nat, s.heap.size ≤ q → A q := fun q h => by rw [← hAe]; exact Or.inr h
  have hS : va_S A s.heap s.heap [] := va_S.rf
  have hl := lv_entry ([.ref a0, .ref r1, .ref r2, .ref r3]) (n := 4) (Nat.le_of_ble_eq_true rfl)
  rw [lg_entry_eq]
  generalize (lg_sl ([.ref a0, .ref r1, .ref r2, .ref r3]) ++ List.replicate (4 - (lg_sl ([.ref a0, .ref r1, .ref r2, .ref r3])).length) Slot.unset).toArray = ls at hl ⊢
  have hl : lv_has ls 4 [(0, .ref a0), (1, .ref r1), (2, .ref r2), (3, .ref r3)] := hl
  have hP : va_P D pgCl [(a0, .inr (7, [.null, .null, .null, .null, .int (pg_I 0), .int (pg_I 0), .int (pg_I 0)]))] s.heap := hP
  refine lv_aload_n hx hb (by decide +kernel : decode prog_3_method_1_code 0 = .ok (.aload_n 0, 1)) rfl (lv_at hl 0 rfl) ?_
  refine W.objInit hx hb hown (hts (.methodLink pgR7 3 objectInit) (pg_tb_in 291 rfl rfl)) (hts (.instanceMethod objectInit) (pg_tb_in 86 rfl rfl)) (hts _ (pg_tb_in 87 rfl rfl)) rfl (by rw [hml]; exact hl.1) rfl (by decide +kernel : decode prog_3_method_1_code 1 = .ok (.invokespecial 3, 3)) (Nat.le_of_ble_eq_true rfl) (Nat.le_of_ble_eq_true rfl) ?_
  refine W.eq (g2 := F0 m 4 ls []) rfl ?_
  refine lv_aload_n hx hb (by decide +kernel : decode prog_3_method_1_code 4 = .ok (.aload_n 0, 1)) rfl (lv_at hl 0 rfl) ?_
  refine lv_bipush (v := pg_I 11) hx hb (by decide +kernel : decode prog_3_method_1_code 5 = .ok (.bipush 11, 2)) (pg_bi 11 (by decide) (by decide)) ?_
  have hc_ : 0 + 1 ≤ 1 := by omega
  have hs_ : 0 + 11 ≤ 11 := by omega
  refine pg_newa (D := D) (atype := .int) (cA := K.1) (N' := 11) (a0 := (11, .inl (fun _ => pg_I 0))) (ty := .int) hx hb (hts (.arrayClass .int) (pg_tb_in 108 rfl rfl)) rfl (hK.2 0 _ rfl).2 hP hD hS hA rfl (by decide +kernel) (by decide +kernel) (by decide +kernel) hc_ hs_ (by decide +kernel : decode prog_3_method_1_code 7 = .ok (.newarray .int, 2)) (fun q1 H hP hD hS => ?_)
  have hP : va_P D pgCl [(a0, .inr (7, [.null, .null, .null, .null, .int (pg_I 0), .int (pg_I 0), .int (pg_I 0)])), (q1, .inl (K.1, 11, .inl (fun _ => pg_I 0)))] H := hP
  have hD : va_D A [(a0, .inr (7, [.null, .null, .null, .null, .int (pg_I 0), .int (pg_I 0), .int (pg_I 0)])), (q1, .inl (K.1, 11, .inl (fun _ => pg_I 0)))] := hD
  refine W.widen (k := 1) (n := 11) (by omega) (by omega) ?_
  refine va_putF (D := D) (ci := 7) (v := .ref q1) (ty := .array .int) (C := pgR7) (T := pgT7) (N := 7) hx hb hts pgV7 pgY7 pgY7_ok pgN7 hown hK hP hD hS 0 rfl rfl 3 (by decide) (hts (.fieldLink pgR7 9 pgR7 "needed" "[I") (pg_tb_in 295 rfl rfl)) (fun _ h9 => h9) rfl hin rfl (by decide +kernel) rfl rfl (Nat.le_of_ble_eq_true rfl) (by decide +kernel : decode prog_3_method_1_code 9 = .ok (.putfield 9, 3)) (fun H locs hP hD hS => ?_)
  have hP : va_P D pgCl [(a0, .inr (7, [.null, .null, .null, .ref q1, .int (pg_I 0), .int (pg_I 0), .int (pg_I 0)])), (q1, .inl (K.1, 11, .inl (fun _ => pg_I 0)))] H := hP
  have hD : va_D A [(a0, .inr (7, [.null, .null, .null, .ref q1, .int (pg_I 0), .int (pg_I 0), .int (pg_I 0)])), (q1, .inl (K.1, 11, .inl (fun _ => pg_I 0)))] := hD
  refine lv_aload_n hx hb (by decide +kernel : decode prog_3_method_1_code 12 = .ok (.aload_n 0, 1)) rfl (lv_at hl 0 rfl) ?_
  refine lv_iconst (v := pg_I 0) hx hb (by decide +kernel : decode prog_3_method_1_code 13 = .ok (.iconst 0, 1)) rfl ?_
  refine va_put (D := D) (ci := 7) (v := .int (pg_I 0)) (ty := .int) (C := pgR7) (T := pgT7) (N := 7) hx hb hts pgV7 pgY7 pgY7_ok pgN7 hown hK hP hD hS 0 rfl rfl 4 (by decide) (hts (.fieldLink pgR7 15 pgR7 "used" "I") (pg_tb_in 296 rfl rfl)) (fun _ h9 => h9) rfl (by decide +kernel) rfl rfl (Nat.le_of_ble_eq_true rfl) (by decide +kernel : decode prog_3_method_1_code 14 = .ok (.putfield 15, 3)) (fun H locs hP hD hS => ?_)
  have hP : va_P D pgCl [(a0, .inr (7, [.null, .null, .null, .ref q1, .int (pg_I 0), .int (pg_I 0), .int (pg_I 0)])), (q1, .inl (K.1, 11, .inl (fun _ => pg_I 0)))] H := hP
  have hD : va_D A [(a0, .inr (7, [.null, .null, .null, .ref q1, .int (pg_I 0), .int (pg_I 0), .int (pg_I 0)])), (q1, .inl (K.1, 11, .inl (fun _ => pg_I 0)))] := hD
  refine lv_aload_n hx hb (by decide +kernel : decode prog_3_method_1_code 17 = .ok (.aload_n 0, 1)) rfl (lv_at hl 0 rfl) ?_
  refine lv_iconst (v := pg_I 0) hx hb (by decide +kernel : decode prog_3_method_1_code 18 = .ok (.iconst 0, 1)) rfl ?_
  refine va_put (D := D) (ci := 7) (v := .int (pg_I 0)) (ty := .int) (C := pgR7) (T := pgT7) (N := 7) hx hb hts pgV7 pgY7 pgY7_ok pgN7 hown hK hP hD hS 0 rfl rfl 5 (by decide) (hts (.fieldLink pgR7 19 pgR7 "answer" "I") (pg_tb_in 297 rfl rfl)) (fun _ h9 => h9) rfl (by decide +kernel) rfl rfl (Nat.le_of_ble_eq_true rfl) (by decide +kernel : decode prog_3_method_1_code 19 = .ok (.putfield 19, 3)) (fun H locs hP hD hS => ?_)
  have hP : va_P D pgCl [(a0, .inr (7, [.null, .null, .null, .ref q1, .int (pg_I 0), .int (pg_I 0), .int (pg_I 0)])), (q1, .inl (K.1, 11, .inl (fun _ => pg_I 0)))] H := hP
  have hD : va_D A [(a0, .inr (7, [.null, .null, .null, .ref q1, .int (pg_I 0), .int (pg_I 0), .int (pg_I 0)])), (q1, .inl (K.1, 11, .inl (fun _ => pg_I 0)))] := hD
  refine lv_aload_n hx hb (by decide +kernel : decode prog_3_method_1_code 22 = .ok (.aload_n 0, 1)) rfl (lv_at hl 0 rfl) ?_
  refine lv_iconst (v := pg_I 0) hx hb (by decide +kernel : decode prog_3_method_1_code 23 = .ok (.iconst 0, 1)) rfl ?_
  refine va_put (D := D) (ci := 7) (v := .int (pg_I 0)) (ty := .boolean) (C := pgR7) (T := pgT7) (N := 7) hx hb hts pgV7 pgY7 pgY7_ok pgN7 hown hK hP hD hS 0 rfl rfl 6 (by decide) (hts (.fieldLink pgR7 22 pgR7 "known" "Z") (pg_tb_in 298 rfl rfl)) (fun _ h9 => h9) rfl (by decide +kernel) (by decide +kernel) (by decide +kernel) (Nat.le_of_ble_eq_true rfl) (by decide +kernel : decode prog_3_method_1_code 24 = .ok (.putfield 22, 3)) (fun H locs hP hD hS => ?_)
  have hP : va_P D pgCl [(a0, .inr (7, [.null, .null, .null, .ref q1, .int (pg_I 0), .int (pg_I 0), .int (pg_I 0)])), (q1, .inl (K.1, 11, .inl (fun _ => pg_I 0)))] H := hP
  have hD : va_D A [(a0, .inr (7, [.null, .null, .null, .ref q1, .int (pg_I 0), .int (pg_I 0), .int (pg_I 0)])), (q1, .inl (K.1, 11, .inl (fun _ => pg_I 0)))] := hD
  refine lv_aload_n hx hb (by decide +kernel : decode prog_3_method_1_code 27 = .ok (.aload_n 0, 1)) rfl (lv_at hl 0 rfl) ?_
  refine lv_aload_n hx hb (by decide +kernel : decode prog_3_method_1_code 28 = .ok (.aload_n 1, 1)) rfl (lv_at hl 1 rfl) ?_
  refine va_putF (D := D) (ci := 7) (v := .ref r1) (ty := .object "PlaneGroups$Moves") (C := pgR7) (T := pgT7) (N := 7) hx hb hts pgV7 pgY7 pgY7_ok pgN7 hown hK hP hD hS 0 rfl rfl 0 (by decide) (hts (.fieldLink pgR7 26 pgR7 "moves" "LPlaneGroups$Moves;") (pg_tb_in 292 rfl rfl)) (fun _ h9 => h9) rfl hin rfl (by decide +kernel) rfl rfl (Nat.le_of_ble_eq_true rfl) (by decide +kernel : decode prog_3_method_1_code 29 = .ok (.putfield 26, 3)) (fun H locs hP hD hS => ?_)
  have hP : va_P D pgCl [(a0, .inr (7, [.ref r1, .null, .null, .ref q1, .int (pg_I 0), .int (pg_I 0), .int (pg_I 0)])), (q1, .inl (K.1, 11, .inl (fun _ => pg_I 0)))] H := hP
  have hD : va_D A [(a0, .inr (7, [.ref r1, .null, .null, .ref q1, .int (pg_I 0), .int (pg_I 0), .int (pg_I 0)])), (q1, .inl (K.1, 11, .inl (fun _ => pg_I 0)))] := hD
  refine lv_aload_n hx hb (by decide +kernel : decode prog_3_method_1_code 32 = .ok (.aload_n 0, 1)) rfl (lv_at hl 0 rfl) ?_
  refine lv_aload_n hx hb (by decide +kernel : decode prog_3_method_1_code 33 = .ok (.aload_n 2, 1)) rfl (lv_at hl 2 rfl) ?_
  refine va_putF (D := D) (ci := 7) (v := .ref r2) (ty := .object "PlaneGroups$Symmetries") (C := pgR7) (T := pgT7) (N := 7) hx hb hts pgV7 pgY7 pgY7_ok pgN7 hown hK hP hD hS 0 rfl rfl 1 (by decide) (hts (.fieldLink pgR7 30 pgR7 "symmetries" "LPlaneGroups$Symmetries;") (pg_tb_in 293 rfl rfl)) (fun _ h9 => h9) rfl hin rfl (by decide +kernel) rfl rfl (Nat.le_of_ble_eq_true rfl) (by decide +kernel : decode prog_3_method_1_code 34 = .ok (.putfield 30, 3)) (fun H locs hP hD hS => ?_)
  have hP : va_P D pgCl [(a0, .inr (7, [.ref r1, .ref r2, .null, .ref q1, .int (pg_I 0), .int (pg_I 0), .int (pg_I 0)])), (q1, .inl (K.1, 11, .inl (fun _ => pg_I 0)))] H := hP
  have hD : va_D A [(a0, .inr (7, [.ref r1, .ref r2, .null, .ref q1, .int (pg_I 0), .int (pg_I 0), .int (pg_I 0)])), (q1, .inl (K.1, 11, .inl (fun _ => pg_I 0)))] := hD
  refine lv_aload_n hx hb (by decide +kernel : decode prog_3_method_1_code 37 = .ok (.aload_n 0, 1)) rfl (lv_at hl 0 rfl) ?_
  refine lv_aload_n hx hb (by decide +kernel : decode prog_3_method_1_code 38 = .ok (.aload_n 3, 1)) rfl (lv_at hl 3 rfl) ?_
  refine va_putF (D := D) (ci := 7) (v := .ref r3) (ty := .object "PlaneGroups$Reached") (C := pgR7) (T := pgT7) (N := 7) hx hb hts pgV7 pgY7 pgY7_ok pgN7 hown hK hP hD hS 0 rfl rfl 2 (by decide) (hts (.fieldLink pgR7 34 pgR7 "group" "LPlaneGroups$Reached;") (pg_tb_in 294 rfl rfl)) (fun _ h9 => h9) rfl hin rfl (by decide +kernel) rfl rfl (Nat.le_of_ble_eq_true rfl) (by decide +kernel : decode prog_3_method_1_code 39 = .ok (.putfield 34, 3)) (fun H locs hP hD hS => ?_)
  have hP : va_P D pgCl [(a0, .inr (7, [.ref r1, .ref r2, .ref r3, .ref q1, .int (pg_I 0), .int (pg_I 0), .int (pg_I 0)])), (q1, .inl (K.1, 11, .inl (fun _ => pg_I 0)))] H := hP
  have hD : va_D A [(a0, .inr (7, [.ref r1, .ref r2, .ref r3, .ref q1, .int (pg_I 0), .int (pg_I 0), .int (pg_I 0)])), (q1, .inl (K.1, 11, .inl (fun _ => pg_I 0)))] := hD
  exact W.vret hx hb hr (fun t ht hW => ⟨⟨(), rfl, trivial, q1, by rw [ht]; exact hP, hD⟩, hS.F ht⟩) hS.2.2 (by decide +kernel : decode prog_3_method_1_code 42 = .ok (.return_, 1))
def ki_y8 : MethodName := ⟨pgR8, "<init>", "(LPlaneGroups$Moves;LPlaneGroups$Picture;LPlaneGroups$Reached;)V"⟩
set_option maxHeartbeats 4000000 in
set_option maxRecDepth 100000 in
theorem ki_N (l : Launch) (K : pg_K3) (D : va_G) (a0 r1 r2 r3 sz : Nat) : Met l ki_y8 (Cond.code ki_y8 prog_2_method_1_code 4 none :: pg_tb) { frames := 1, cells := 1, slots := 6, locals := 20 } (va_Pc [.ref a0, .ref r1, .ref r2, .ref r3] (fun U => U.heap.size = sz ∧ va_P D pgCl [(a0, .inr (8, [.null, .null, .null, .null, .int (pg_I 0)]))] U.heap ∧ va_K D pgCl (pg_tys K) U ∧ va_D (fun _ => True) [(a0, .inr (8, [.null, .null, .null, .null, .int (pg_I 0)]))])) (va_Qv (fun _ : Unit => True) (fun _ t => ∃ q1 : Nat, va_P D pgCl [(a0, .inr (8, [.ref r1, .ref r2, .ref r3, .ref q1, .int (pg_I 0)])), (q1, .inl (K.1, 6, .inl (fun _ => pg_I 0)))] t.heap ∧ va_D (va_A [(a0, .inr (8, [.null, .null, .null, .null, .int (pg_I 0)]))] sz) [(a0, .inr (8, [.ref r1, .ref r2, .ref r3, .ref q1, .int (pg_I 0)])), (q1, .inl (K.1, 6, .inl (fun _ => pg_I 0)))]) (va_A [(a0, .inr (8, [.null, .null, .null, .null, .int (pg_I 0)]))] sz)) 1 6 (va_A [(a0, .inr (8, [.null, .null, .null, .null, .int (pg_I 0)]))] sz) := by
  refine pg_ofW (cc := prog_2_method_1_code) (maxL := 4) (ret := none) (by decide +kernel) rfl ?_
  intro p e s m args below meth c s₁ B hml hv
  show W p l e { frames := 1, cells := 1, slots := 6, locals := 20 } s m args below meth c s.heap [] 0 0 _ _
  obtain ⟨rfl, hsz, hP, hK, hD0⟩ := hv
  have hx := B.exec
  have hb := B.bytes
  have hr := B.returns
  have hts0 := atoms_spec (ws := Cond.code ki_y8 prog_2_method_1_code 4 none :: pg_tb) B.pre
  have hts : ∀ w ∈ pg_tb, w.before _ s = true := fun w hw => hts0 w (List.mem_cons_of_mem _ hw)
  have hown : s.vm.findClass pgR8 = some m.cls := findClass_of_methodNamed B.named
  have hlocks := B.notSynchronized
  have hin : meth.name = "<init>" := (name_of_methodNamed B.named B.method).1
  subst hsz
  have hD := hD0.self (sz := s.heap.size)
  generalize hAe : va_A [(a0, .inr (8, [.null, .null, .null, .null, .int (pg_I 0)]))] s.heap.size = A at hD ⊢
  have hA : ∀ q : Nat, s.heap.size ≤ q → A q := fun q h => by rw [← hAe]; exact Or.inr h
  have hS : va_S A s.heap s.heap [] := va_S.rf
  have hl := lv_entry ([.ref a0, .ref r1, .ref r2, .ref r3]) (n := 4) (Nat.le_of_ble_eq_true rfl)
  rw [lg_entry_eq]
  generalize (lg_sl ([.ref a0, .ref r1, .ref r2, .ref r3]) ++ List.replicate (4 - (lg_sl ([.ref a0, .ref r1, .ref r2, .ref r3])).length) Slot.unset).toArray = ls at hl ⊢
  have hl : lv_has ls 4 [(0, .ref a0), (1, .ref r1), (2, .ref r2), (3, .ref r3)] := hl
  have hP : va_P D pgCl [(a0, .inr (8, [.null, .null, .null, .null, .int (pg_I 0)]))] s.heap := hP
  refine lv_aload_n hx hb (by decide +kernel : decode prog_2_method_1_code 0 = .ok (.aload_n 0, 1)) rfl (lv_at hl 0 rfl) ?_
  refine W.objInit hx hb hown (hts (.methodLink pgR8 3 objectInit) (pg_tb_in 320 rfl rfl)) (hts (.instanceMethod objectInit) (pg_tb_in 86 rfl rfl)) (hts _ (pg_tb_in 87 rfl rfl)) rfl (by rw [hml]; exact hl.1) rfl (by decide +kernel : decode prog_2_method_1_code 1 = .ok (.invokespecial 3, 3)) (Nat.le_of_ble_eq_true rfl) (Nat.le_of_ble_eq_true rfl) ?_
  refine W.eq (g2 := F0 m 4 ls []) rfl ?_
  refine lv_aload_n hx hb (by decide +kernel : decode prog_2_method_1_code 4 = .ok (.aload_n 0, 1)) rfl (lv_at hl 0 rfl) ?_
  refine lv_bipush (v := pg_I 6) hx hb (by decide +kernel : decode prog_2_method_1_code 5 = .ok (.bipush 6, 2)) (pg_bi 6 (by decide) (by decide)) ?_
  have hc_ : 0 + 1 ≤ 1 := by omega
  have hs_ : 0 + 6 ≤ 6 := by omega
  refine pg_newa (D := D) (atype := .int) (cA := K.1) (N' := 6) (a0 := (6, .inl (fun _ => pg_I 0))) (ty := .int) hx hb (hts (.arrayClass .int) (pg_tb_in 108 rfl rfl)) rfl (hK.2 0 _ rfl).2 hP hD hS hA rfl (by decide +kernel) (by decide +kernel) (by decide +kernel) hc_ hs_ (by decide +kernel : decode prog_2_method_1_code 7 = .ok (.newarray .int, 2)) (fun q1 H hP hD hS => ?_)
  have hP : va_P D pgCl [(a0, .inr (8, [.null, .null, .null, .null, .int (pg_I 0)])), (q1, .inl (K.1, 6, .inl (fun _ => pg_I 0)))] H := hP
  have hD : va_D A [(a0, .inr (8, [.null, .null, .null, .null, .int (pg_I 0)])), (q1, .inl (K.1, 6, .inl (fun _ => pg_I 0)))] := hD
  refine W.widen (k := 1) (n := 6) (by omega) (by omega) ?_
  refine va_putF (D := D) (ci := 8) (v := .ref q1) (ty := .array .int) (C := pgR8) (T := pgT8) (N := 5) hx hb hts pgV8 pgY8 pgY8_ok pgN8 hown hK hP hD hS 0 rfl rfl 3 (by decide) (hts (.fieldLink pgR8 9 pgR8 "codes" "[I") (pg_tb_in 324 rfl rfl)) (fun _ h9 => h9) rfl hin rfl (by decide +kernel) rfl rfl (Nat.le_of_ble_eq_true rfl) (by decide +kernel : decode prog_2_method_1_code 9 = .ok (.putfield 9, 3)) (fun H locs hP hD hS => ?_)
  have hP : va_P D pgCl [(a0, .inr (8, [.null, .null, .null, .ref q1, .int (pg_I 0)])), (q1, .inl (K.1, 6, .inl (fun _ => pg_I 0)))] H := hP
  have hD : va_D A [(a0, .inr (8, [.null, .null, .null, .ref q1, .int (pg_I 0)])), (q1, .inl (K.1, 6, .inl (fun _ => pg_I 0)))] := hD
  refine lv_aload_n hx hb (by decide +kernel : decode prog_2_method_1_code 12 = .ok (.aload_n 0, 1)) rfl (lv_at hl 0 rfl) ?_
  refine lv_iconst (v := pg_I 0) hx hb (by decide +kernel : decode prog_2_method_1_code 13 = .ok (.iconst 0, 1)) rfl ?_
  refine va_put (D := D) (ci := 8) (v := .int (pg_I 0)) (ty := .int) (C := pgR8) (T := pgT8) (N := 5) hx hb hts pgV8 pgY8 pgY8_ok pgN8 hown hK hP hD hS 0 rfl rfl 4 (by decide) (hts (.fieldLink pgR8 15 pgR8 "filled" "I") (pg_tb_in 325 rfl rfl)) (fun _ h9 => h9) rfl (by decide +kernel) rfl rfl (Nat.le_of_ble_eq_true rfl) (by decide +kernel : decode prog_2_method_1_code 14 = .ok (.putfield 15, 3)) (fun H locs hP hD hS => ?_)
  have hP : va_P D pgCl [(a0, .inr (8, [.null, .null, .null, .ref q1, .int (pg_I 0)])), (q1, .inl (K.1, 6, .inl (fun _ => pg_I 0)))] H := hP
  have hD : va_D A [(a0, .inr (8, [.null, .null, .null, .ref q1, .int (pg_I 0)])), (q1, .inl (K.1, 6, .inl (fun _ => pg_I 0)))] := hD
  refine lv_aload_n hx hb (by decide +kernel : decode prog_2_method_1_code 17 = .ok (.aload_n 0, 1)) rfl (lv_at hl 0 rfl) ?_
  refine lv_aload_n hx hb (by decide +kernel : decode prog_2_method_1_code 18 = .ok (.aload_n 1, 1)) rfl (lv_at hl 1 rfl) ?_
  refine va_putF (D := D) (ci := 8) (v := .ref r1) (ty := .object "PlaneGroups$Moves") (C := pgR8) (T := pgT8) (N := 5) hx hb hts pgV8 pgY8 pgY8_ok pgN8 hown hK hP hD hS 0 rfl rfl 0 (by decide) (hts (.fieldLink pgR8 19 pgR8 "moves" "LPlaneGroups$Moves;") (pg_tb_in 321 rfl rfl)) (fun _ h9 => h9) rfl hin rfl (by decide +kernel) rfl rfl (Nat.le_of_ble_eq_true rfl) (by decide +kernel : decode prog_2_method_1_code 19 = .ok (.putfield 19, 3)) (fun H locs hP hD hS => ?_)
  have hP : va_P D pgCl [(a0, .inr (8, [.ref r1, .null, .null, .ref q1, .int (pg_I 0)])), (q1, .inl (K.1, 6, .inl (fun _ => pg_I 0)))] H := hP
  have hD : va_D A [(a0, .inr (8, [.ref r1, .null, .null, .ref q1, .int (pg_I 0)])), (q1, .inl (K.1, 6, .inl (fun _ => pg_I 0)))] := hD
  refine lv_aload_n hx hb (by decide +kernel : decode prog_2_method_1_code 22 = .ok (.aload_n 0, 1)) rfl (lv_at hl 0 rfl) ?_
  refine lv_aload_n hx hb (by decide +kernel : decode prog_2_method_1_code 23 = .ok (.aload_n 2, 1)) rfl (lv_at hl 2 rfl) ?_
  refine va_putF (D := D) (ci := 8) (v := .ref r2) (ty := .object "PlaneGroups$Picture") (C := pgR8) (T := pgT8) (N := 5) hx hb hts pgV8 pgY8 pgY8_ok pgN8 hown hK hP hD hS 0 rfl rfl 1 (by decide) (hts (.fieldLink pgR8 23 pgR8 "picture" "LPlaneGroups$Picture;") (pg_tb_in 322 rfl rfl)) (fun _ h9 => h9) rfl hin rfl (by decide +kernel) rfl rfl (Nat.le_of_ble_eq_true rfl) (by decide +kernel : decode prog_2_method_1_code 24 = .ok (.putfield 23, 3)) (fun H locs hP hD hS => ?_)
  have hP : va_P D pgCl [(a0, .inr (8, [.ref r1, .ref r2, .null, .ref q1, .int (pg_I 0)])), (q1, .inl (K.1, 6, .inl (fun _ => pg_I 0)))] H := hP
  have hD : va_D A [(a0, .inr (8, [.ref r1, .ref r2, .null, .ref q1, .int (pg_I 0)])), (q1, .inl (K.1, 6, .inl (fun _ => pg_I 0)))] := hD
  refine lv_aload_n hx hb (by decide +kernel : decode prog_2_method_1_code 27 = .ok (.aload_n 0, 1)) rfl (lv_at hl 0 rfl) ?_
  refine lv_aload_n hx hb (by decide +kernel : decode prog_2_method_1_code 28 = .ok (.aload_n 3, 1)) rfl (lv_at hl 3 rfl) ?_
  refine va_putF (D := D) (ci := 8) (v := .ref r3) (ty := .object "PlaneGroups$Reached") (C := pgR8) (T := pgT8) (N := 5) hx hb hts pgV8 pgY8 pgY8_ok pgN8 hown hK hP hD hS 0 rfl rfl 2 (by decide) (hts (.fieldLink pgR8 27 pgR8 "reached" "LPlaneGroups$Reached;") (pg_tb_in 323 rfl rfl)) (fun _ h9 => h9) rfl hin rfl (by decide +kernel) rfl rfl (Nat.le_of_ble_eq_true rfl) (by decide +kernel : decode prog_2_method_1_code 29 = .ok (.putfield 27, 3)) (fun H locs hP hD hS => ?_)
  have hP : va_P D pgCl [(a0, .inr (8, [.ref r1, .ref r2, .ref r3, .ref q1, .int (pg_I 0)])), (q1, .inl (K.1, 6, .inl (fun _ => pg_I 0)))] H := hP
  have hD : va_D A [(a0, .inr (8, [.ref r1, .ref r2, .ref r3, .ref q1, .int (pg_I 0)])), (q1, .inl (K.1, 6, .inl (fun _ => pg_I 0)))] := hD
  exact W.vret hx hb hr (fun t ht hW => ⟨⟨(), rfl, trivial, q1, by rw [ht]; exact hP, hD⟩, hS.F ht⟩) hS.2.2 (by decide +kernel : decode prog_2_method_1_code 32 = .ok (.return_, 1))
