/-! the rules by which methods are walked in the small machine -/
def pg_args : Nat → List pg_V → pg_L
  | _, [] => []
  | i, v :: r => (i, v) :: pg_args (bif pg_isL v then i + 2 else i + 1) r
def pg_alen : List pg_V → Nat
  | [] => 0
  | v :: r => (bif pg_isL v then 2 else 1) + pg_alen r
theorem pg_args_eq (ad : Nat → Nat) : ∀ (as : List pg_V) (i : Nat), (pg_args i as).map (pg_cl ad) = lv_args i (as.map (pg_cv ad)) := by
  intro as
  induction as with
  | nil => intro i; rfl
  | cons v r ih =>
    intro i
    simp only [pg_args, List.map_cons, lv_args, ih]
    rcases v with z | z | z <;> rfl
theorem pg_alen_eq (ad : Nat → Nat) (as : List pg_V) : (lg_sl (as.map (pg_cv ad))).length = pg_alen as := by
  induction as with
  | nil => rfl
  | cons v r ih =>
    simp only [lg_sl] at ih
    simp only [lg_sl, List.map_cons, List.flatMap_cons, List.length_append, ih, pg_alen]
    rcases v with z | z | z <;> rfl
theorem pg_ofW {l : Launch} {y : MethodName} {ws ws' : List Cond} {rm : Room} {Pc : Array Value → State → Prop} {Qc : Array Value → State → Outcome → State → Prop} {mc ms : Nat} {free : Addr → Prop} {cc : ByteArray} {maxL : Nat} {ret : Option FieldType}
    (hy : plainFor y = true) (hw : ws = Cond.code y cc maxL ret :: ws')
    (body : ∀ p e s m args below meth c s₁, BodyLoose p l y (headSpec ws rm) cc maxL ret e s m args below meth c s₁ → c.maxLocals = maxL → Pc args s →
      W p l e (headSpec ws rm).room s m args below meth c s.heap [] 0 0 (MQ below Qc args s mc ms free) (entryFrame m args maxL)) : Met l y ws rm Pc Qc mc ms free := by
  refine MetFree.of_bodySF (code := cc) (maxLocals := maxL) (ret := ret) hy ?_ ?_
  · intro args s m h hn
    obtain ⟨meth, c, h1, h2, h3, h4, h5, h6, -, -⟩ := Cond.code_spec hn (atoms_spec (ws := ws) h _ (by rw [hw]; exact List.mem_cons_self))
    exact ⟨meth, c, h1, h2, h3, h4, h5, h6⟩
  · intro p e s m args below meth c s₁ B hml hP _
    have hh0 : s₁.heap = s.heap := by rw [B.state]; rfl
    obtain ⟨t, a1, o, b1, b2, b3⟩ := body p e s m args below meth c s₁ B hml hP s₁ hh0 (Stand.of_body B)
    exact ⟨t, o, a1, b1, b2, ⟨b3.1, b3.2⟩⟩
theorem pg_Sem_of {b : Bool} {M : pg_M} {as : List pg_V} {h : pg_H} {Q : Option pg_V → pg_H → Prop} {stc : Bool} {n : Nat} (hF : pg_MF stc n M) (hlen : Nat.ble (pg_alen as) M.2.2.1 = true) (hg : pg_Good b M Q (0, pg_args 0 as, [], h)) : pg_Sem b M as h Q := by
  intro l K D ad sz
  obtain ⟨-, -, -, -, hcls, hpl, hck⟩ := hF
  refine pg_ofW (cc := M.2.1) (maxL := M.2.2.1) (ret := M.2.2.2.1) hpl rfl ?_
  intro p e s m args below meth c s₁ B hml hv
  obtain ⟨rfl, hsz, hP, hK, hD0, hZ⟩ := hv
  subst hsz
  have hts := atoms_spec (ws := Cond.code M.1 M.2.1 M.2.2.1 M.2.2.2.1 :: pg_tb) B.pre
  have hown : s.vm.findClass M.1.cls = some m.cls := findClass_of_methodNamed B.named
  rw [hcls] at hown
  have hl := lv_entry (as.map (pg_cv ad)) (n := M.2.2.1) (by rw [pg_alen_eq]; exact Nat.le_of_ble_eq_true hlen)
  rw [lg_entry_eq]
  rw [← pg_args_eq] at hl
  exact hg p l e (pg_rm M) s m _ below meth c K D ad (va_A (pg_wd K ad (pg_sh b) h) s.heap.size) ⟨B.exec, B.bytes, hml, B.returns, B.notSynchronized, hown, fun w hw => hts w (List.mem_cons_of_mem _ hw), hK, rfl, fun q hq => Or.inr hq, hck, hZ⟩ s.heap [] _ hl hP hD0.self va_S.rf
/-- some instructions, one behind the other -/
def pg_blk (b : Bool) (M : pg_M) : Nat → pg_St → Option (List Prop × pg_St)
  | 0, st => some ([], st)
  | n + 1, st => match pg_fetch M.2.2.2.2.2.2.2 st.1 with
    | some (i, _) => match pg_eff (pg_sh b) M.2.2.1 (pg_FT M.2.2.2.2.1) (pg_CT M.2.2.2.2.1) (pg_ST M.2.2.2.2.1) i st with
      | some (L, st') => match pg_blk b M n st' with
        | some (L', st'') => some (L ++ L', st'')
        | none => none
      | none => none
    | none => none
theorem pg_all_app : ∀ (L L' : List Prop), pg_all (L ++ L') → pg_all L ∧ pg_all L' := by
  intro L
  induction L with
  | nil => intro L' h; exact ⟨trivial, h⟩
  | cons p r ih =>
    intro L' h
    cases r with
    | nil =>
      cases L' with
      | nil => exact ⟨h, trivial⟩
      | cons q t => exact ⟨h.1, h.2⟩
    | cons q t =>
      obtain ⟨h1, h2⟩ := h
      obtain ⟨h3, h4⟩ := ih L' h2
      exact ⟨⟨h1, h3⟩, h4⟩
section PGD
variable {b : Bool} {M Mc : pg_M} {Q Q' : Option pg_V → pg_H → Prop} {st st' st1 st2 : pg_St}
theorem pg_go : ∀ (n : Nat) {st st' : pg_St} {L : List Prop}, pg_blk b M n st = some (L, st') → pg_all L → pg_Good b M Q st' → pg_Good b M Q st := by
  intro n
  induction n with
  | zero => intro st st' L h hL hg; cases h; exact hg
  | succ n ih =>
    intro st st' L h hL hg
    simp only [pg_blk] at h
    split at h
    · rename_i i len hf
      split at h
      · rename_i L1 s1 he
        split at h
        · rename_i L2 s2 hb
          cases h
          obtain ⟨h1, h2⟩ := pg_all_app _ _ hL
          intro p l e R s m args below meth c K D ad A hX
          exact pg_step1 hX hf he h1 (ih hb h2 hg p l e R s m args below meth c K D ad A hX)
        · cases h
      · cases h
    · cases h
/-- the branch behind n instructions -/
def pg_brn (b : Bool) (M : pg_M) (n : Nat) (st : pg_St) : Option (List Prop × Prop × Prop × pg_St × pg_St) := match pg_blk b M n st with
  | some (L, st') => match pg_fetch M.2.2.2.2.2.2.2 st'.1 with
    | some (i, _) => match pg_bro i st' with
      | some (P, c, s1, s2) => some (L, P, c, s1, s2)
      | none => none
    | none => none
  | none => none
theorem pg_br (n : Nat) {L : List Prop} {P c : Prop} (h : pg_brn b M n st = some (L, P, c, st1, st2)) (hL : pg_all L) (hP : P) (h1 : c → pg_Good b M Q st1) (h2 : ¬ c → pg_Good b M Q st2) : pg_Good b M Q st := by
  simp only [pg_brn] at h
  split at h
  · rename_i L1 s1 hb
    split at h
    · rename_i i len hf
      split at h
      · rename_i P0 c0 t1 t2 hbr
        cases h
        refine pg_go n hb hL ?_
        intro p l e R s m args below meth c' K D ad A hX
        exact pg_bro_step hX hf hbr hP (fun hc => h1 hc p l e R s m args below meth c' K D ad A hX) (fun hc => h2 hc p l e R s m args below meth c' K D ad A hX)
      · cases h
    · cases h
  · cases h
/-- the call behind n instructions: what it is, and the state behind it -/
def pg_cln (b : Bool) (M : pg_M) (n : Nat) (st : pg_St) : Option (List Prop × pg_M × List pg_V × pg_H × Nat × pg_L × List pg_V) := match pg_blk b M n st with
  | some (L, st') => match pg_fetch M.2.2.2.2.2.2.2 st'.1 with
    | some (i, _) => match pg_inv (pg_sh b) M i st' with
      | some (Mc, as, rest) => some (L, Mc, as, st'.2.2.2, st'.1 + 3, st'.2.1, rest)
      | none => none
    | none => none
  | none => none
theorem pg_ca (n : Nat) {L : List Prop} {as : List pg_V} {h0 : pg_H} {pc : Nat} {lv : pg_L} {rest : List pg_V} (h : pg_cln b M n st = some (L, Mc, as, h0, pc, lv, rest)) (hL : pg_all L) (hs : pg_Sem b Mc as h0 Q') (kk : ∀ (r : Option pg_V) (h' : pg_H), Q' r h' → pg_Good b M Q (pc, lv, r.toList ++ rest, h')) : pg_Good b M Q st := by
  simp only [pg_cln] at h
  split at h
  · rename_i L1 s1 hb
    split at h
    · rename_i i len hf
      split at h
      · rename_i Mc0 as0 rest0 hi
        cases h
        refine pg_go n hb hL ?_
        intro p l e R s m args below meth c' K D ad A hX
        exact pg_inv_step hX hf hi hs (fun r h' hq => kk r h' hq p l e R s m args below meth c' K D ad A hX)
      · cases h
    · cases h
  · cases h
/-- the end behind n instructions -/
def pg_rtn (b : Bool) (M : pg_M) (n : Nat) (st : pg_St) : Option (List Prop × Option pg_V × pg_H) := match pg_blk b M n st with
  | some (L, st') => match pg_fetch M.2.2.2.2.2.2.2 st'.1 with
    | some (i, _) => match pg_rto M.2.2.2.1 i st' with
      | some (L', r) => some (L ++ L', r, st'.2.2.2)
      | none => none
    | none => none
  | none => none
theorem pg_re (n : Nat) {L : List Prop} {r : Option pg_V} {h0 : pg_H} (h : pg_rtn b M n st = some (L, r, h0)) (hL : pg_all L) (hq : Q r h0) : pg_Good b M Q st := by
  simp only [pg_rtn] at h
  split at h
  · rename_i L1 s1 hb
    split at h
    · rename_i i len hf
      split at h
      · rename_i L' r' hi
        cases h
        obtain ⟨h1, h2⟩ := pg_all_app _ _ hL
        refine pg_go n hb h1 ?_
        intro p l e R s m args below meth c' K D ad A hX
        exact pg_rto_step hX hf hi h2 hq
      · cases h
    · cases h
  · cases h
theorem pg_Sem_mono {as : List pg_V} {h : pg_H} (hs : pg_Sem b M as h Q) (hq : ∀ r h', Q r h' → Q' r h') : pg_Sem b M as h Q' := by
  intro l K D ad sz
  obtain hM := hs l K D ad sz
  intro p e ha hc hk s m args below hf happ hP hK
  obtain ⟨k, o, h1, h2, h3, ⟨⟨⟨r, h', hq1, hv, hP'⟩, hF⟩, hL⟩⟩ := hM p e ha hc hk s m args below hf happ hP hK
  exact ⟨k, o, h1, h2, h3, ⟨⟨⟨r, h', hq r h' hq1, hv, hP'⟩, hF⟩, hL⟩⟩
end PGD
