/-! branches, returns, calls; blocks; a method's contract out of its run -/
theorem pg_bro_step {b : Bool} {M : pg_M} {Q : Option pg_V → pg_H → Prop} {p : Program} {l : Launch} {e : Env} {R : Room} {s : State} {m : MethodId} {args : Array Value} {below : List Frame} {meth : Method} {c : Code} {K : pg_K3} {D : va_G} {ad : Nat → Nat} {A : Nat → Prop} {st s1 s2 : pg_St}
    (hX : pg_Cx p R s m args meth c K D ad A M) {i : Instr} {len : Nat} {P cn : Prop} (hf : pg_fetch M.2.2.2.2.2.2.2 st.1 = some (i, len)) (he : pg_bro i st = some (P, cn, s1, s2)) (hP0 : P)
    (hg1 : cn → pg_G b M Q p l e R s m args below meth c K D ad A s1) (hg2 : ¬ cn → pg_G b M Q p l e R s m args below meth c K D ad A s2) : pg_G b M Q p l e R s m args below meth c K D ad A st := by
  obtain ⟨hx, hb, hml, hr, hlk, hown, hts, hK, hR, hA, hck, hZ⟩ := hX
  obtain ⟨hd, hlen⟩ := pg_dec hck hf
  unfold pg_bro at he
  split at he
  · rename_i cc off
    simp only [pg_isSw, pg_len, Bool.false_eq_true, false_or] at hlen
    subst hlen
    split at he
    · rename_i y x r hst
      split at he
      · rename_i t ht
        cases he
        obtain ⟨h1, h2⟩ := hP0
        intro H locs ls hl hP hD hS
        rw [hst]
        cases cc with
        | eq => exact lv_icmp_eq hx hb hd ht (fun h => hg1 ((pg_I_inj h1 h2).mp h) H locs ls hl hP hD hS) (fun h => hg2 (fun h' => h ((pg_I_inj h1 h2).mpr h')) H locs ls hl hP hD hS)
        | ne => exact lv_icmp_ne hx hb hd ht (fun h => hg1 (fun h' => h ((pg_I_inj h1 h2).mpr h')) H locs ls hl hP hD hS) (fun h => hg2 (fun h' => h' ((pg_I_inj h1 h2).mp h)) H locs ls hl hP hD hS)
        | lt => exact lv_icmp_lt hx hb hd ht (fun h => hg1 ((pg_I_lt h1 h2).mp h) H locs ls hl hP hD hS) (fun h => hg2 (fun h' => h ((pg_I_lt h1 h2).mpr h')) H locs ls hl hP hD hS)
        | ge => exact lv_icmp_ge hx hb hd ht (fun h => hg1 ((pg_I_le h2 h1).mp h) H locs ls hl hP hD hS) (fun h => hg2 (fun h' => h ((pg_I_le h2 h1).mpr h')) H locs ls hl hP hD hS)
        | gt => exact lv_icmp_gt hx hb hd ht (fun h => hg1 ((pg_I_lt h2 h1).mp h) H locs ls hl hP hD hS) (fun h => hg2 (fun h' => h ((pg_I_lt h2 h1).mpr h')) H locs ls hl hP hD hS)
        | le => exact lv_icmp_le hx hb hd ht (fun h => hg1 ((pg_I_le h1 h2).mp h) H locs ls hl hP hD hS) (fun h => hg2 (fun h' => h ((pg_I_le h1 h2).mpr h')) H locs ls hl hP hD hS)
      · cases he
    · cases he
  · rename_i cc off
    simp only [pg_isSw, pg_len, Bool.false_eq_true, false_or] at hlen
    subst hlen
    split at he
    · rename_i x r hst
      split at he
      · rename_i t ht
        cases he
        have h1 : pg_inR x := hP0
        have h2 := pg_in0
        intro H locs ls hl hP hD hS
        rw [hst]
        cases cc with
        | eq => exact lv_if_eq hx hb hd ht (fun h => hg1 ((pg_I_inj h1 h2).mp h) H locs ls hl hP hD hS) (fun h => hg2 (fun h' => h ((pg_I_inj h1 h2).mpr h')) H locs ls hl hP hD hS)
        | ne => exact lv_if_ne hx hb hd ht (fun h => hg1 (fun h' => h ((pg_I_inj h1 h2).mpr h')) H locs ls hl hP hD hS) (fun h => hg2 (fun h' => h' ((pg_I_inj h1 h2).mp h)) H locs ls hl hP hD hS)
        | lt => exact lv_if_lt hx hb hd ht (fun h => hg1 ((pg_I_lt h1 h2).mp h) H locs ls hl hP hD hS) (fun h => hg2 (fun h' => h ((pg_I_lt h1 h2).mpr h')) H locs ls hl hP hD hS)
        | ge => exact lv_if_ge hx hb hd ht (fun h => hg1 ((pg_I_le h2 h1).mp h) H locs ls hl hP hD hS) (fun h => hg2 (fun h' => h ((pg_I_le h2 h1).mpr h')) H locs ls hl hP hD hS)
        | gt => exact lv_if_gt hx hb hd ht (fun h => hg1 ((pg_I_lt h2 h1).mp h) H locs ls hl hP hD hS) (fun h => hg2 (fun h' => h ((pg_I_lt h2 h1).mpr h')) H locs ls hl hP hD hS)
        | le => exact lv_if_le hx hb hd ht (fun h => hg1 ((pg_I_le h1 h2).mp h) H locs ls hl hP hD hS) (fun h => hg2 (fun h' => h ((pg_I_le h1 h2).mpr h')) H locs ls hl hP hD hS)
      · cases he
    · cases he
  · cases he
/-- a method's end: what it answers -/
def pg_rto (rt : Option FieldType) (i : Instr) (st : pg_St) : Option (List Prop × Option pg_V) := match i with
  | .ireturn => match st.2.2.1 with
    | [.inl z] => match rt with
      | some .int => some ([], some (.inl z))
      | some .boolean => some ([z = 0 ∨ z = 1], some (.inl z))
      | _ => none
    | _ => none
  | .return_ => match st.2.2.1 with
    | [] => match rt with
      | none => some ([], none)
      | _ => none
    | _ => none
  | _ => none
theorem pg_rto_step {b : Bool} {M : pg_M} {Q : Option pg_V → pg_H → Prop} {p : Program} {l : Launch} {e : Env} {R : Room} {s : State} {m : MethodId} {args : Array Value} {below : List Frame} {meth : Method} {c : Code} {K : pg_K3} {D : va_G} {ad : Nat → Nat} {A : Nat → Prop} {st : pg_St}
    (hX : pg_Cx p R s m args meth c K D ad A M) {i : Instr} {len : Nat} {L : List Prop} {r : Option pg_V} (hf : pg_fetch M.2.2.2.2.2.2.2 st.1 = some (i, len)) (he : pg_rto M.2.2.2.1 i st = some (L, r)) (hL : pg_all L) (hq : Q r st.2.2.2) : pg_G b M Q p l e R s m args below meth c K D ad A st := by
  obtain ⟨hx, hb, hml, hr, hlk, hown, hts, hK, hR, hA, hck, hZ⟩ := hX
  obtain ⟨hd, hlen⟩ := pg_dec hck hf
  unfold pg_rto at he
  split at he
  · simp only [pg_isSw, pg_len, Bool.false_eq_true, false_or] at hlen
    subst hlen
    split at he
    · rename_i z hst
      intro H locs ls hl hP hD hS
      rw [hst]
      split at he
      · rename_i hrt
        cases he
        exact W.zret (ty := .int) hx hb (by rw [hr, hrt]) rfl (fun t ht hW => ⟨⟨_, _, hq, rfl, by rw [ht]; exact hP⟩, hS.F ht⟩) hS.2.2 hd hlk
      · rename_i hrt
        cases he
        refine W.zret (ty := .boolean) hx hb (by rw [hr, hrt]) ?_ (fun t ht hW => ⟨⟨_, _, hq, rfl, by rw [ht]; exact hP⟩, hS.F ht⟩) hS.2.2 hd hlk
        exact (pg_nar (ad := ad) (c := 1) (x := z) (by decide) (fun _ => hL)).1
      · cases he
    · cases he
  · simp only [pg_isSw, pg_len, Bool.false_eq_true, false_or] at hlen
    subst hlen
    split at he
    · rename_i hst
      intro H locs ls hl hP hD hS
      rw [hst]
      split at he
      · rename_i hrt
        cases he
        exact W.vret hx hb (by rw [hr, hrt]) (fun t ht hW => ⟨⟨_, _, hq, rfl, by rw [ht]; exact hP⟩, hS.F ht⟩) hS.2.2 hd hlk
      · cases he
    · cases he
  · cases he
