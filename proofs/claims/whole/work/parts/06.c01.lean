/-- RentOrBuy$Plans.planByGuess -/
def rmX3_planByGuess : Room := { frames := 5, cells := 0, slots := 0, locals := 105 }
set_option maxHeartbeats 4000000 in
set_option maxRecDepth 100000 in
theorem c_X3_planByGuess (l : Launch) (dC : Nat → ClassId) (dI : Nat → Nat → Nat) (kA : ClassId) (a_pl a_tk a_rs : Nat) (sz : Nat) (days : Int32) (tkk : Nat) (tkd : Int32) (tkp : Int32) (tkr : Int32) (tkc : Int32) (rsF : Nat → Int32) (p1 : Int32) (p2 : Int32) (K : Int32 → Prop) (hg : g_X3_planByGuess days tkk tkd tkp tkr tkc rsF p1 p2 K) : Met l yX3_planByGuess wsX3_planByGuess rmX3_planByGuess (va_Pc [.ref a_pl, .int p1, .int p2] (prW (dC, dI) kA sz [(a_pl, .inr (3, [.int days, .ref a_tk, .ref a_rs])), (a_tk, tkE tkk tkd tkp tkr tkc), (a_rs, .inl (kA, 41, .inl rsF))])) (va_Qi (fun (r : Int32) (u : Unit) => K r) (poW (dC, dI) (va_A [(a_pl, .inr (3, [.int days, .ref a_tk, .ref a_rs])), (a_tk, tkE tkk tkd tkp tkr tkc), (a_rs, .inl (kA, 41, .inl rsF))] sz) (fun (u : Unit) => [(a_pl, .inr (3, [.int days, .ref a_tk, .ref a_rs])), (a_tk, tkE tkk tkd tkp tkr tkc), (a_rs, .inl (kA, 41, .inl rsF))])) (va_A [(a_pl, .inr (3, [.int days, .ref a_tk, .ref a_rs])), (a_tk, tkE tkk tkd tkp tkr tkc), (a_rs, .inl (kA, 41, .inl rsF))] sz)) 0 0 (va_A [(a_pl, .inr (3, [.int days, .ref a_tk, .ref a_rs])), (a_tk, tkE tkk tkd tkp tkr tkc), (a_rs, .inl (kA, 41, .inl rsF))] sz) := by
  refine Met.ofW (cc := cX3_planByGuess) (maxL := 4) (ret := (some .int)) (by decide) rfl ?_
  intro p e s m args below meth c s₁ B hml hv
  obtain ⟨hargs, hsz, hP, hK, hD0, hN⟩ := hv
  have hx := B.exec
  have hb := B.bytes
  have hr := B.returns
  have hts := atoms_spec (ws := wsX3_planByGuess) B.pre
  have hown : s.vm.findClass RX3 = some m.cls := findClass_of_methodNamed B.named
  have hlocks := B.notSynchronized
  subst hsz
  have hD := hD0.self (sz := s.heap.size)
  generalize hAe : va_A [(a_pl, .inr (3, [.int days, .ref a_tk, .ref a_rs])), (a_tk, tkE tkk tkd tkp tkr tkc), (a_rs, .inl (kA, 41, .inl rsF))] s.heap.size = A at hD ⊢
  have hA : ∀ q : Nat, s.heap.size ≤ q → A q := fun q h => by rw [← hAe]; exact Or.inr h
  have hS : va_S A s.heap s.heap [] := va_S.rf
  obtain ⟨Q, hQ⟩ : ∃ Q : State → Prop, Q = MQ below (va_Qi (fun (r : Int32) (u : Unit) => K r) (poW (dC, dI) A (fun (u : Unit) => [(a_pl, .inr (3, [.int days, .ref a_tk, .ref a_rs])), (a_tk, tkE tkk tkd tkp tkr tkc), (a_rs, .inl (kA, 41, .inl rsF))])) A) args s 0 0 A := ⟨_, rfl⟩
  rw [← hQ]
  have hP : va_P (dC, dI) vwCl [(a_pl, .inr (3, [.int days, .ref a_tk, .ref a_rs])), (a_tk, tkE tkk tkd tkp tkr tkc), (a_rs, .inl (kA, 41, .inl rsF))] s.heap := hP
  refine en_ok hargs (Nat.le_of_ble_eq_true rfl) (fun ls hl => ?_)
  have hl : lv_has ls 4 [(0, .ref a_pl), (1, .int p1), (2, .int p2)] := hl
  have h := hg
  unfold g_X3_planByGuess at h
  refine lv_aload_n hx hb dX3_planByGuess_0 rfl (lv_at hl 0 rfl) ?_
  have hPc := hP.sub (ws' := [(a_pl, .inr (3, [.int days, .ref a_tk, .ref a_rs])), (a_tk, tkE tkk tkd tkp tkr tkc), (a_rs, .inl (kA, 41, .inl rsF))]) [0, 1, 2] rfl
  have hDc := hD.sub (ws' := [(a_pl, .inr (3, [.int days, .ref a_tk, .ref a_rs])), (a_tk, tkE tkk tkd tkp tkr tkc), (a_rs, .inl (kA, 41, .inl rsF))]) [0, 1, 2] (by decide) rfl
  refine fr_i (wr := []) (WN := fun (u1 : Unit) => [(a_pl, .inr (3, [.int days, .ref a_tk, .ref a_rs])), (a_tk, tkE tkk tkd tkp tkr tkc), (a_rs, .inl (kA, 41, .inl rsF))]) (va_runV (As := []) (rest := []) ⟨hx, hb, hml, hown, hts⟩ (c_X3_surePlan l dC dI kA a_pl a_tk a_rs s.heap.size days tkk tkd tkp tkr tkc rsF _ h) (cwV 0 hts gX3_planByGuess_X3_surePlan rfl rfl rfl (by decide +kernel) ⟨Nat.le_of_ble_eq_true rfl, Nat.le_of_ble_eq_true rfl⟩) (prW.preV (ci := 3) (q0 := 0) hPc hDc hK hN rfl rfl) rfl rfl hl.1 rfl (lv_room (Nat.le_of_ble_eq_true rfl)) dX3_planByGuess_1 ⟨Nat.le_of_ble_eq_true rfl, Nat.le_of_ble_eq_true rfl⟩) hP hD hS hA [0, 1, 2] [] rfl rfl (by decide) (by decide) [0, 1, 2] (by decide) (fun _ => rfl) (fun r1 u1 H locs h hP hD hS => ?_)
  have hP : va_P (dC, dI) vwCl [(a_pl, .inr (3, [.int days, .ref a_tk, .ref a_rs])), (a_tk, tkE tkk tkd tkp tkr tkc), (a_rs, .inl (kA, 41, .inl rsF))] H := hP
  have hD : va_D A [(a_pl, .inr (3, [.int days, .ref a_tk, .ref a_rs])), (a_tk, tkE tkk tkd tkp tkr tkc), (a_rs, .inl (kA, 41, .inl rsF))] := hD
  refine lv_istore_n (lv' := [(3, .int r1), (0, .ref a_pl), (1, .int p1), (2, .int p2)]) hx hb dX3_planByGuess_4 rfl hl (by decide) rfl (fun ls hl => ?_)
  refine lv_aload_n hx hb dX3_planByGuess_5 rfl (lv_at hl 1 rfl) ?_
  refine lv_iconst (v := (1 : Int32)) hx hb dX3_planByGuess_6 (by decide +kernel) ?_
  refine lv_iload_n hx hb dX3_planByGuess_7 rfl (lv_at hl 2 rfl) ?_
  have hPc := hP.sub (ws' := [(a_pl, .inr (3, [.int days, .ref a_tk, .ref a_rs])), (a_tk, tkE tkk tkd tkp tkr tkc), (a_rs, .inl (kA, 41, .inl rsF))]) [0, 1, 2] rfl
  have hDc := hD.sub (ws' := [(a_pl, .inr (3, [.int days, .ref a_tk, .ref a_rs])), (a_tk, tkE tkk tkd tkp tkr tkc), (a_rs, .inl (kA, 41, .inl rsF))]) [0, 1, 2] (by decide) rfl
  refine fr_i (wr := []) (WN := fun (u8 : Unit) => [(a_pl, .inr (3, [.int days, .ref a_tk, .ref a_rs])), (a_tk, tkE tkk tkd tkp tkr tkc), (a_rs, .inl (kA, 41, .inl rsF))]) (va_runV (As := [.int (1 : Int32), .int p1]) (rest := []) ⟨hx, hb, hml, hown, hts⟩ (c_X3_costOf l dC dI kA a_pl a_tk a_rs H.size days tkk tkd tkp tkr tkc rsF (1 : Int32) p1 _ h) (cwV 2 hts gX3_planByGuess_X3_costOf rfl rfl rfl (by decide +kernel) ⟨Nat.le_of_ble_eq_true rfl, Nat.le_of_ble_eq_true rfl⟩) (prW.preV (ci := 3) (q0 := 0) hPc hDc hK hN rfl rfl) rfl rfl hl.1 rfl (lv_room (Nat.le_of_ble_eq_true rfl)) dX3_planByGuess_8 ⟨Nat.le_of_ble_eq_true rfl, Nat.le_of_ble_eq_true rfl⟩) hP hD hS hA [0, 1, 2] [] rfl rfl (by decide) (by decide) [0, 1, 2] (by decide) (fun _ => rfl) (fun r8 u8 H locs h hP hD hS => ?_)
  have hP : va_P (dC, dI) vwCl [(a_pl, .inr (3, [.int days, .ref a_tk, .ref a_rs])), (a_tk, tkE tkk tkd tkp tkr tkc), (a_rs, .inl (kA, 41, .inl rsF))] H := hP
  have hD : va_D A [(a_pl, .inr (3, [.int days, .ref a_tk, .ref a_rs])), (a_tk, tkE tkk tkd tkp tkr tkc), (a_rs, .inl (kA, 41, .inl rsF))] := hD
  refine lv_aload_n hx hb dX3_planByGuess_11 rfl (lv_at hl 1 rfl) ?_
  refine va_get (D := (dC, dI)) (ci := 3) (v := .ref a_rs) (C := RX3) (T := TX3) (N := 3) hx hb hts (fun _ h => List.mem_cons_of_mem _ (List.mem_append_left _ (List.mem_append_left _ (List.mem_append_left _ (List.mem_append_right _ h))))) hown hK hP 0 rfl rfl 2 (by decide) (hts (.fieldLink RX3 24 "RentOrBuy$Plans" "rents" "[I") (List.mem_cons_of_mem _ (List.mem_append_left _ (List.mem_append_left _ (List.mem_append_left _ (List.mem_append_left _ (List.mem_of_getElem? (i := 0) rfl))))))) (fun _ h9 => h9) rfl dX3_planByGuess_12 ?_
  refine lv_iload_n hx hb dX3_planByGuess_15 rfl (lv_at hl 2 rfl) ?_
  obtain ⟨hi16, h⟩ := h
  refine va_iald hx hb hK hP 2 0 rfl rfl hi16 dX3_planByGuess_16 ?_
  refine lv_icmp_ge (tgt := 33) hx hb dX3_planByGuess_17 (by decide) (fun c17 => ?_) (fun c17 => ?_)
  · replace h := h.1 c17
    refine lv_iload_n hx hb dX3_planByGuess_33 rfl (lv_at hl 0 rfl) ?_
    refine lv_i2l hx hb dX3_planByGuess_34 rfl ?_
    refine lv_ldc2 (v := (10 : Int64)) hx hb hown (hts (.constantLong RX3 66 (10)) (List.mem_cons_of_mem _ (List.mem_append_left _ (List.mem_append_left _ (List.mem_append_left _ (List.mem_append_left _ (List.mem_of_getElem? (i := 1) rfl))))))) dX3_planByGuess_35 ?_
    refine lv_lmul hx hb dX3_planByGuess_38 ?_
    refine lv_iload_n hx hb dX3_planByGuess_39 rfl (lv_at hl 3 rfl) ?_
    refine lv_i2l hx hb dX3_planByGuess_40 rfl ?_
    have hPc := hP.sub (ws' := []) [] rfl
    have hDc := hD.sub (ws' := []) [] (by decide) rfl
    refine fr_l (wr := [(a_pl, .inr (3, [.int days, .ref a_tk, .ref a_rs])), (a_tk, tkE tkk tkd tkp tkr tkc), (a_rs, .inl (kA, 41, .inl rsF))]) (WN := fun (u41 : Unit) => [(a_pl, .inr (3, [.int days, .ref a_tk, .ref a_rs])), (a_tk, tkE tkk tkd tkp tkr tkc), (a_rs, .inl (kA, 41, .inl rsF))]) (va_runSN (As := [.long (r1.toInt64 * (10 : Int64)), .long p2.toInt64]) (rest := []) ⟨hx, hb, hml, hown, hts⟩ (c_X6_roundedDown l dC dI kA H.size (r1.toInt64 * (10 : Int64)) p2.toInt64 _ h) ⟨va_cnB 2 hts gX3_planByGuess_X6_roundedDown_n72 rfl rfl rfl (hN.m 5 rfl) (hts (.initialized RX6) (List.mem_cons_of_mem _ (List.mem_append_left _ (List.mem_append_left _ (List.mem_append_left _ (List.mem_append_left _ (List.mem_of_getElem? (i := 33) rfl))))))) (by decide +kernel) ⟨Nat.le_of_ble_eq_true rfl, Nat.le_of_ble_eq_true rfl⟩, (hts (.static yX6_roundedDown) (List.mem_cons_of_mem _ (List.mem_append_left _ (List.mem_append_left _ (List.mem_append_left _ (List.mem_append_left _ (List.mem_of_getElem? (i := 36) rfl))))))), trivial⟩ (prW.preS hPc hDc hK hN) rfl rfl hl.1 rfl (lv_room (Nat.le_of_ble_eq_true rfl)) dX3_planByGuess_41 ⟨Nat.le_of_ble_eq_true rfl, Nat.le_of_ble_eq_true rfl⟩) hP hD hS hA [] [0, 1, 2] rfl rfl (by decide) (by decide) [0, 1, 2] (by decide) (fun _ => rfl) (fun r41 u41 H locs h hP hD hS => ?_)
    have hP : va_P (dC, dI) vwCl [(a_pl, .inr (3, [.int days, .ref a_tk, .ref a_rs])), (a_tk, tkE tkk tkd tkp tkr tkc), (a_rs, .inl (kA, 41, .inl rsF))] H := hP
    have hD : va_D A [(a_pl, .inr (3, [.int days, .ref a_tk, .ref a_rs])), (a_tk, tkE tkk tkd tkp tkr tkc), (a_rs, .inl (kA, 41, .inl rsF))] := hD
    refine lv_aload_n hx hb dX3_planByGuess_44 rfl (lv_at hl 1 rfl) ?_
    refine va_get (D := (dC, dI)) (ci := 3) (v := .int days) (C := RX3) (T := TX3) (N := 3) hx hb hts (fun _ h => List.mem_cons_of_mem _ (List.mem_append_left _ (List.mem_append_left _ (List.mem_append_left _ (List.mem_append_right _ h))))) hown hK hP 0 rfl rfl 0 (by decide) (hts (.fieldLink RX3 9 "RentOrBuy$Plans" "days" "I") (List.mem_cons_of_mem _ (List.mem_append_left _ (List.mem_append_left _ (List.mem_append_left _ (List.mem_append_left _ (List.mem_of_getElem? (i := 2) rfl))))))) (fun _ h9 => h9) rfl dX3_planByGuess_45 ?_
    refine lv_iconst (v := (1 : Int32)) hx hb dX3_planByGuess_48 (by decide +kernel) ?_
    refine lv_iadd hx hb dX3_planByGuess_49 ?_
    refine lv_i2l hx hb dX3_planByGuess_50 rfl ?_
    refine va_mmin_long hx hb (by rw [hml]; exact hl.1.symm) hown (hts (.methodLink RX3 75 Lib.MathLoose.min_long.x) (List.mem_cons_of_mem _ (List.mem_append_left _ (List.mem_append_left _ (List.mem_append_left _ (List.mem_append_left _ (List.mem_of_getElem? (i := 3) rfl))))))) (hts (.static Lib.MathLoose.min_long.x) (List.mem_cons_of_mem _ (List.mem_append_left _ (List.mem_append_left _ (List.mem_append_left _ (List.mem_append_left _ (List.mem_of_getElem? (i := 4) rfl))))))) (hts (.initialized "java/lang/Math") (List.mem_cons_of_mem _ (List.mem_append_left _ (List.mem_append_left _ (List.mem_append_left _ (List.mem_append_left _ (List.mem_of_getElem? (i := 5) rfl))))))) (hts (.code Lib.MathLoose.min_long.x Lib.MathLoose.min_long.code 4 (some .long)) (List.mem_cons_of_mem _ (List.mem_append_left _ (List.mem_append_left _ (List.mem_append_left _ (List.mem_append_left _ (List.mem_of_getElem? (i := 6) rfl))))))) (Nat.le_of_ble_eq_true rfl) (Nat.le_of_ble_eq_true rfl) (Nat.le_of_ble_eq_true rfl) (Nat.le_of_ble_eq_true rfl) dX3_planByGuess_51 ?_
    refine lv_l2i hx hb dX3_planByGuess_54 rfl ?_
    rw [hQ]
    exact rt_i () hx hb hr hlocks h hP hD hS dX3_planByGuess_55
  · replace h := h.2 c17
    refine lv_iload_n hx hb dX3_planByGuess_20 rfl (lv_at hl 0 rfl) ?_
    refine lv_i2l hx hb dX3_planByGuess_21 rfl ?_
    refine lv_iload_n hx hb dX3_planByGuess_22 rfl (lv_at hl 3 rfl) ?_
    refine lv_i2l hx hb dX3_planByGuess_23 rfl ?_
    refine lv_lmul hx hb dX3_planByGuess_24 ?_
    refine lv_ldc2 (v := (10 : Int64)) hx hb hown (hts (.constantLong RX3 66 (10)) (List.mem_cons_of_mem _ (List.mem_append_left _ (List.mem_append_left _ (List.mem_append_left _ (List.mem_append_left _ (List.mem_of_getElem? (i := 1) rfl))))))) dX3_planByGuess_25 ?_
    have hPc := hP.sub (ws' := []) [] rfl
    have hDc := hD.sub (ws' := []) [] (by decide) rfl
    refine fr_l (wr := [(a_pl, .inr (3, [.int days, .ref a_tk, .ref a_rs])), (a_tk, tkE tkk tkd tkp tkr tkc), (a_rs, .inl (kA, 41, .inl rsF))]) (WN := fun (u28 : Unit) => [(a_pl, .inr (3, [.int days, .ref a_tk, .ref a_rs])), (a_tk, tkE tkk tkd tkp tkr tkc), (a_rs, .inl (kA, 41, .inl rsF))]) (va_runSN (As := [.long (r1.toInt64 * p2.toInt64), .long (10 : Int64)]) (rest := []) ⟨hx, hb, hml, hown, hts⟩ (c_X6_roundedUp l dC dI kA H.size (r1.toInt64 * p2.toInt64) (10 : Int64) _ h) ⟨va_cnB 2 hts gX3_planByGuess_X6_roundedUp_n68 rfl rfl rfl (hN.m 4 rfl) (hts (.initialized RX6) (List.mem_cons_of_mem _ (List.mem_append_left _ (List.mem_append_left _ (List.mem_append_left _ (List.mem_append_left _ (List.mem_of_getElem? (i := 33) rfl))))))) (by decide +kernel) ⟨Nat.le_of_ble_eq_true rfl, Nat.le_of_ble_eq_true rfl⟩, (hts (.static yX6_roundedUp) (List.mem_cons_of_mem _ (List.mem_append_left _ (List.mem_append_left _ (List.mem_append_left _ (List.mem_append_left _ (List.mem_of_getElem? (i := 32) rfl))))))), trivial⟩ (prW.preS hPc hDc hK hN) rfl rfl hl.1 rfl (lv_room (Nat.le_of_ble_eq_true rfl)) dX3_planByGuess_28 ⟨Nat.le_of_ble_eq_true rfl, Nat.le_of_ble_eq_true rfl⟩) hP hD hS hA [] [0, 1, 2] rfl rfl (by decide) (by decide) [0, 1, 2] (by decide) (fun _ => rfl) (fun r28 u28 H locs h hP hD hS => ?_)
    have hP : va_P (dC, dI) vwCl [(a_pl, .inr (3, [.int days, .ref a_tk, .ref a_rs])), (a_tk, tkE tkk tkd tkp tkr tkc), (a_rs, .inl (kA, 41, .inl rsF))] H := hP
    have hD : va_D A [(a_pl, .inr (3, [.int days, .ref a_tk, .ref a_rs])), (a_tk, tkE tkk tkd tkp tkr tkc), (a_rs, .inl (kA, 41, .inl rsF))] := hD
    refine lv_l2i hx hb dX3_planByGuess_31 rfl ?_
    rw [hQ]
    exact rt_i () hx hb hr hlocks h hP hD hS dX3_planByGuess_32

/-- RentOrBuy.commonDivisor -/
def rmX6_commonDivisor : Room := { frames := 0, cells := 0, slots := 0, locals := 0 }
set_option maxHeartbeats 4000000 in
set_option maxRecDepth 100000 in
theorem c_X6_commonDivisor (l : Launch) (dC : Nat → ClassId) (dI : Nat → Nat → Nat) (kA : ClassId) (sz : Nat) (p1 : Int64) (p2 : Int64) (K : Int64 → Prop) (hg : g_X6_commonDivisor p1 p2 K) : Met l yX6_commonDivisor wsX6_commonDivisor rmX6_commonDivisor (va_Pc [.long p1, .long p2] (prW (dC, dI) kA sz [])) (va_Ql (fun (r : Int64) (u : Unit) => K r) (poW (dC, dI) (va_A [] sz) (fun (u : Unit) => [])) (va_A [] sz)) 0 0 (va_A [] sz) := by
  refine Met.ofW (cc := cX6_commonDivisor) (maxL := 11) (ret := (some .long)) (by decide) rfl ?_
  intro p e s m args below meth c s₁ B hml hv
  obtain ⟨hargs, hsz, hP, hK, hD0, hN⟩ := hv
  have hx := B.exec
  have hb := B.bytes
  have hr := B.returns
  have hts := atoms_spec (ws := wsX6_commonDivisor) B.pre
  have hown : s.vm.findClass RX6 = some m.cls := findClass_of_methodNamed B.named
  have hlocks := B.notSynchronized
  subst hsz
  have hD := hD0.self (sz := s.heap.size)
  generalize hAe : va_A [] s.heap.size = A at hD ⊢
  have hA : ∀ q : Nat, s.heap.size ≤ q → A q := fun q h => by rw [← hAe]; exact Or.inr h
  have hS : va_S A s.heap s.heap [] := va_S.rf
  obtain ⟨Q, hQ⟩ : ∃ Q : State → Prop, Q = MQ below (va_Ql (fun (r : Int64) (u : Unit) => K r) (poW (dC, dI) A (fun (u : Unit) => [])) A) args s 0 0 A := ⟨_, rfl⟩
  rw [← hQ]
  have hP : va_P (dC, dI) vwCl [] s.heap := hP
  refine en_ok hargs (Nat.le_of_ble_eq_true rfl) (fun ls hl => ?_)
  have hl : lv_has ls 11 [(0, .long p1), (2, .long p2)] := hl
  have h := hg
  unfold g_X6_commonDivisor at h
  refine lv_lload_n hx hb dX6_commonDivisor_0 rfl (lv_at hl 0 rfl) ?_
  refine lv_lstore (lv' := [(4, .long p1), (0, .long p1), (2, .long p2)]) hx hb dX6_commonDivisor_1 hl (by decide) rfl (fun ls hl => ?_)
  refine lv_lload_n hx hb dX6_commonDivisor_3 rfl (lv_at hl 2 rfl) ?_
  refine lv_lstore (lv' := [(6, .long p2), (4, .long p1), (0, .long p1), (2, .long p2)]) hx hb dX6_commonDivisor_4 hl (by decide) rfl (fun ls hl => ?_)
  refine lv_iconst (v := (0 : Int32)) hx hb dX6_commonDivisor_6 (by decide +kernel) ?_
  refine lv_istore (lv' := [(8, .int (0 : Int32)), (6, .long p2), (4, .long p1), (0, .long p1), (2, .long p2)]) hx hb dX6_commonDivisor_7 hl (by decide) rfl (fun ls hl => ?_)
  obtain ⟨J9, ⟨n9, h⟩, hz9, hs9⟩ := h
  have hL9 : ∀ (n9 : Nat) (v4_9 : Int64) (v6_9 : Int64) (v8_9 : Int32), J9 n9 v4_9 v6_9 v8_9 → ∀ (H : Heap) (locs : List Loc) (ls : Array Slot), va_P (dC, dI) vwCl [] H → va_D A [] → va_S A s.heap H locs → lv_has ls 11 [(4, .long v4_9), (6, .long v6_9), (8, .int v8_9)] → W p l e (headSpec wsX6_commonDivisor rmX6_commonDivisor).room s m args below meth c H locs 0 0 Q (F0 m 9 ls []) := by
    intro n9
    induction n9 with
    | zero => intro v4_9 v6_9 v8_9 h; exact absurd h (hz9 v4_9 v6_9 v8_9)
    | succ n9 ih9 =>
      intro v4_9 v6_9 v8_9 h H locs ls hP hD hS hl
      replace h := hs9 n9 v4_9 v6_9 v8_9 h
      refine lv_iload hx hb dX6_commonDivisor_9 (lv_at hl 2 rfl) ?_
      refine lv_bipush (v := (100 : Int32)) hx hb dX6_commonDivisor_11 (by decide +kernel) ?_
      refine lv_icmp_ge (tgt := 44) hx hb dX6_commonDivisor_13 (by decide) (fun c13 => ?_) (fun c13 => ?_)
      · replace h := h.1 c13
        refine lv_lload hx hb dX6_commonDivisor_44 (lv_at hl 0 rfl) ?_
        rw [hQ]
        exact rt_l () hx hb hr hlocks h hP hD hS dX6_commonDivisor_46
      · replace h := h.2 c13
        refine lv_lload hx hb dX6_commonDivisor_16 (lv_at hl 1 rfl) ?_
        refine lv_lconst (v := (0 : Int64)) hx hb dX6_commonDivisor_18 (by decide +kernel) ?_
        refine W.lcmp hx hb dX6_commonDivisor_19 ?_
        refine lv_if_eq (tgt := 44) hx hb dX6_commonDivisor_20 (by decide) (fun c20 => ?_) (fun c20 => ?_)
        · replace h := h.1 c20
          refine lv_lload hx hb dX6_commonDivisor_44 (lv_at hl 0 rfl) ?_
          rw [hQ]
          exact rt_l () hx hb hr hlocks h hP hD hS dX6_commonDivisor_46
        · replace h := h.2 c20
          refine lv_lload hx hb dX6_commonDivisor_23 (lv_at hl 0 rfl) ?_
          refine lv_lload hx hb dX6_commonDivisor_25 (lv_at hl 1 rfl) ?_
          obtain ⟨hz27, h⟩ := h
          refine lv_lrem hx hb dX6_commonDivisor_27 hz27 ?_
          refine lv_lstore (lv' := [(9, .long (v4_9 - v4_9 / v6_9 * v6_9)), (4, .long v4_9), (6, .long v6_9), (8, .int v8_9)]) hx hb dX6_commonDivisor_28 hl (by decide) rfl (fun ls hl => ?_)
          refine lv_lload hx hb dX6_commonDivisor_30 (lv_at hl 2 rfl) ?_
          refine lv_lstore (lv' := [(4, .long v6_9), (9, .long (v4_9 - v4_9 / v6_9 * v6_9)), (6, .long v6_9), (8, .int v8_9)]) hx hb dX6_commonDivisor_32 hl (by decide) rfl (fun ls hl => ?_)
          refine lv_lload hx hb dX6_commonDivisor_34 (lv_at hl 1 rfl) ?_
          refine lv_lstore (lv' := [(6, .long (v4_9 - v4_9 / v6_9 * v6_9)), (4, .long v6_9), (9, .long (v4_9 - v4_9 / v6_9 * v6_9)), (8, .int v8_9)]) hx hb dX6_commonDivisor_36 hl (by decide) rfl (fun ls hl => ?_)
          refine lv_iinc (v := (v8_9 + (1 : Int32))) (lv' := [(8, .int (v8_9 + (1 : Int32))), (6, .long (v4_9 - v4_9 / v6_9 * v6_9)), (4, .long v6_9), (9, .long (v4_9 - v4_9 / v6_9 * v6_9))]) hx hb dX6_commonDivisor_38 hl (k := 3) rfl (by rfl) (by decide) rfl (fun ls hl => ?_)
          refine lv_goto (tgt := 9) hx hb dX6_commonDivisor_41 (by decide) ?_
          exact ih9 v6_9 (v4_9 - v4_9 / v6_9 * v6_9) (v8_9 + (1 : Int32)) h _ _ _ hP hD hS (lv_sub hl [2, 1, 0] rfl)
  exact hL9 n9 p1 p2 (0 : Int32) h _ _ _ hP hD hS (lv_sub hl [2, 1, 0] rfl)

/-- RentOrBuy.leastForm -/
def rmX6_leastForm : Room := { frames := 1, cells := 0, slots := 0, locals := 30 }
set_option maxHeartbeats 4000000 in
set_option maxRecDepth 100000 in
theorem c_X6_leastForm (l : Launch) (dC : Nat → ClassId) (dI : Nat → Nat → Nat) (kA : ClassId) (sz : Nat) (p1 : Int64) (p2 : Int64) (p3 : Int32) (K : Int64 → Prop) (hg : g_X6_leastForm p1 p2 p3 K) : Met l yX6_leastForm wsX6_leastForm rmX6_leastForm (va_Pc [.long p1, .long p2, .int p3] (prW (dC, dI) kA sz [])) (va_Ql (fun (r : Int64) (u : Unit) => K r) (poW (dC, dI) (va_A [] sz) (fun (u : Unit) => [])) (va_A [] sz)) 0 0 (va_A [] sz) := by
  refine Met.ofW (cc := cX6_leastForm) (maxL := 5) (ret := (some .long)) (by decide) rfl ?_
  intro p e s m args below meth c s₁ B hml hv
  obtain ⟨hargs, hsz, hP, hK, hD0, hN⟩ := hv
  have hx := B.exec
  have hb := B.bytes
  have hr := B.returns
  have hts := atoms_spec (ws := wsX6_leastForm) B.pre
  have hown : s.vm.findClass RX6 = some m.cls := findClass_of_methodNamed B.named
  have hlocks := B.notSynchronized
  subst hsz
  have hD := hD0.self (sz := s.heap.size)
  generalize hAe : va_A [] s.heap.size = A at hD ⊢
  have hA : ∀ q : Nat, s.heap.size ≤ q → A q := fun q h => by rw [← hAe]; exact Or.inr h
  have hS : va_S A s.heap s.heap [] := va_S.rf
  obtain ⟨Q, hQ⟩ : ∃ Q : State → Prop, Q = MQ below (va_Ql (fun (r : Int64) (u : Unit) => K r) (poW (dC, dI) A (fun (u : Unit) => [])) A) args s 0 0 A := ⟨_, rfl⟩
  rw [← hQ]
  have hP : va_P (dC, dI) vwCl [] s.heap := hP
  refine en_ok hargs (Nat.le_of_ble_eq_true rfl) (fun ls hl => ?_)
  have hl : lv_has ls 5 [(0, .long p1), (2, .long p2), (4, .int p3)] := hl
  have h := hg
  unfold g_X6_leastForm at h
  refine lv_iload hx hb dX6_leastForm_0 (lv_at hl 2 rfl) ?_
  obtain ⟨J10, hR10, h⟩ := h
  have hJ10 : ∀ (t0_10 : Int64), J10 t0_10 → ∀ (H : Heap) (locs : List Loc) (ls : Array Slot), va_P (dC, dI) vwCl [] H → va_D A [] → va_S A s.heap H locs → lv_has ls 5 [(0, .long p1), (2, .long p2)] → W p l e (headSpec wsX6_leastForm rmX6_leastForm).room s m args below meth c H locs 0 0 Q (F0 m 10 ls [.long t0_10]) := by
    intro t0_10 h H locs ls hP hD hS hl
    replace h := hR10 t0_10 h
    refine lv_lload_n hx hb dX6_leastForm_10 rfl (lv_at hl 0 rfl) ?_
    refine lv_lload_n hx hb dX6_leastForm_11 rfl (lv_at hl 1 rfl) ?_
    have hPc := hP.sub (ws' := []) [] rfl
    have hDc := hD.sub (ws' := []) [] (by decide) rfl
    refine fr_l (wr := []) (WN := fun (u12 : Unit) => []) (va_runS (As := [.long p1, .long p2]) (rest := [.long t0_10]) ⟨hx, hb, hml, hown, hts⟩ (c_X6_commonDivisor l dC dI kA H.size p1 p2 _ h) (va_cwS 2 hts gX6_leastForm_X6_commonDivisor rfl rfl rfl (by decide +kernel) ⟨Nat.le_of_ble_eq_true rfl, Nat.le_of_ble_eq_true rfl⟩) (prW.preS hPc hDc hK hN) rfl rfl hl.1 rfl (lv_room (Nat.le_of_ble_eq_true rfl)) dX6_leastForm_12 ⟨Nat.le_of_ble_eq_true rfl, Nat.le_of_ble_eq_true rfl⟩) hP hD hS hA [] [] rfl rfl (by decide) (by decide) [] (by decide) (fun _ => rfl) (fun r12 u12 H locs h hP hD hS => ?_)
    have hP : va_P (dC, dI) vwCl [] H := hP
    have hD : va_D A [] := hD
    have hPc := hP.sub (ws' := []) [] rfl
    have hDc := hD.sub (ws' := []) [] (by decide) rfl
    refine fr_l (wr := []) (WN := fun (u15 : Unit) => []) (va_runS (As := [.long t0_10, .long r12]) (rest := []) ⟨hx, hb, hml, hown, hts⟩ (c_X6_roundedDown l dC dI kA H.size t0_10 r12 _ h) (va_cwS 2 hts gX6_leastForm_X6_roundedDown rfl rfl rfl (by decide +kernel) ⟨Nat.le_of_ble_eq_true rfl, Nat.le_of_ble_eq_true rfl⟩) (prW.preS hPc hDc hK hN) rfl rfl hl.1 rfl (lv_room (Nat.le_of_ble_eq_true rfl)) dX6_leastForm_15 ⟨Nat.le_of_ble_eq_true rfl, Nat.le_of_ble_eq_true rfl⟩) hP hD hS hA [] [] rfl rfl (by decide) (by decide) [] (by decide) (fun _ => rfl) (fun r15 u15 H locs h hP hD hS => ?_)
    have hP : va_P (dC, dI) vwCl [] H := hP
    have hD : va_D A [] := hD
    rw [hQ]
    exact rt_l () hx hb hr hlocks h hP hD hS dX6_leastForm_18
  refine lv_if_ne (tgt := 9) hx hb dX6_leastForm_2 (by decide) (fun c2 => ?_) (fun c2 => ?_)
  · replace h := h.1 c2
    refine lv_lload_n hx hb dX6_leastForm_9 rfl (lv_at hl 1 rfl) ?_
    exact hJ10 p2 h _ _ _ hP hD hS (lv_sub hl [0, 1] rfl)
  · replace h := h.2 c2
    refine lv_lload_n hx hb dX6_leastForm_5 rfl (lv_at hl 0 rfl) ?_
    refine lv_goto (tgt := 10) hx hb dX6_leastForm_6 (by decide) ?_
    exact hJ10 p1 h _ _ _ hP hD hS (lv_sub hl [0, 1] rfl)

/-- RentOrBuy$Plans.ratioPart -/
def rmX3_ratioPart : Room := { frames := 2, cells := 0, slots := 0, locals := 54 }
set_option maxHeartbeats 4000000 in
set_option maxRecDepth 100000 in
theorem c_X3_ratioPart (l : Launch) (dC : Nat → ClassId) (dI : Nat → Nat → Nat) (kA : ClassId) (a_pl a_tk a_rs : Nat) (sz : Nat) (days : Int32) (tkk : Nat) (tkd : Int32) (tkp : Int32) (tkr : Int32) (tkc : Int32) (rsF : Nat → Int32) (p1 : Int32) (p2 : Int32) (p3 : Int32) (K : Int32 → Prop) (hg : g_X3_ratioPart days tkk tkd tkp tkr tkc rsF p1 p2 p3 K) : Met l yX3_ratioPart wsX3_ratioPart rmX3_ratioPart (va_Pc [.ref a_pl, .int p1, .int p2, .int p3] (prW (dC, dI) kA sz [(a_pl, .inr (3, [.int days, .ref a_tk, .ref a_rs])), (a_tk, tkE tkk tkd tkp tkr tkc), (a_rs, .inl (kA, 41, .inl rsF))])) (va_Qi (fun (r : Int32) (u : Unit) => K r) (poW (dC, dI) (va_A [(a_pl, .inr (3, [.int days, .ref a_tk, .ref a_rs])), (a_tk, tkE tkk tkd tkp tkr tkc), (a_rs, .inl (kA, 41, .inl rsF))] sz) (fun (u : Unit) => [(a_pl, .inr (3, [.int days, .ref a_tk, .ref a_rs])), (a_tk, tkE tkk tkd tkp tkr tkc), (a_rs, .inl (kA, 41, .inl rsF))])) (va_A [(a_pl, .inr (3, [.int days, .ref a_tk, .ref a_rs])), (a_tk, tkE tkk tkd tkp tkr tkc), (a_rs, .inl (kA, 41, .inl rsF))] sz)) 0 0 (va_A [(a_pl, .inr (3, [.int days, .ref a_tk, .ref a_rs])), (a_tk, tkE tkk tkd tkp tkr tkc), (a_rs, .inl (kA, 41, .inl rsF))] sz) := by
  refine Met.ofW (cc := cX3_ratioPart) (maxL := 4) (ret := (some .int)) (by decide) rfl ?_
  intro p e s m args below meth c s₁ B hml hv
  obtain ⟨hargs, hsz, hP, hK, hD0, hN⟩ := hv
  have hx := B.exec
  have hb := B.bytes
  have hr := B.returns
  have hts := atoms_spec (ws := wsX3_ratioPart) B.pre
  have hown : s.vm.findClass RX3 = some m.cls := findClass_of_methodNamed B.named
  have hlocks := B.notSynchronized
  subst hsz
  have hD := hD0.self (sz := s.heap.size)
  generalize hAe : va_A [(a_pl, .inr (3, [.int days, .ref a_tk, .ref a_rs])), (a_tk, tkE tkk tkd tkp tkr tkc), (a_rs, .inl (kA, 41, .inl rsF))] s.heap.size = A at hD ⊢
  have hA : ∀ q : Nat, s.heap.size ≤ q → A q := fun q h => by rw [← hAe]; exact Or.inr h
  have hS : va_S A s.heap s.heap [] := va_S.rf
  obtain ⟨Q, hQ⟩ : ∃ Q : State → Prop, Q = MQ below (va_Qi (fun (r : Int32) (u : Unit) => K r) (poW (dC, dI) A (fun (u : Unit) => [(a_pl, .inr (3, [.int days, .ref a_tk, .ref a_rs])), (a_tk, tkE tkk tkd tkp tkr tkc), (a_rs, .inl (kA, 41, .inl rsF))])) A) args s 0 0 A := ⟨_, rfl⟩
  rw [← hQ]
  have hP : va_P (dC, dI) vwCl [(a_pl, .inr (3, [.int days, .ref a_tk, .ref a_rs])), (a_tk, tkE tkk tkd tkp tkr tkc), (a_rs, .inl (kA, 41, .inl rsF))] s.heap := hP
  refine en_ok hargs (Nat.le_of_ble_eq_true rfl) (fun ls hl => ?_)
  have hl : lv_has ls 4 [(0, .ref a_pl), (1, .int p1), (2, .int p2), (3, .int p3)] := hl
  have h := hg
  unfold g_X3_ratioPart at h
  refine lv_aload_n hx hb dX3_ratioPart_0 rfl (lv_at hl 0 rfl) ?_
  refine lv_iload_n hx hb dX3_ratioPart_1 rfl (lv_at hl 1 rfl) ?_
  refine lv_iload_n hx hb dX3_ratioPart_2 rfl (lv_at hl 2 rfl) ?_
  have hPc := hP.sub (ws' := [(a_pl, .inr (3, [.int days, .ref a_tk, .ref a_rs])), (a_tk, tkE tkk tkd tkp tkr tkc), (a_rs, .inl (kA, 41, .inl rsF))]) [0, 1, 2] rfl
  have hDc := hD.sub (ws' := [(a_pl, .inr (3, [.int days, .ref a_tk, .ref a_rs])), (a_tk, tkE tkk tkd tkp tkr tkc), (a_rs, .inl (kA, 41, .inl rsF))]) [0, 1, 2] (by decide) rfl
  refine fr_i (wr := []) (WN := fun (u3 : Unit) => [(a_pl, .inr (3, [.int days, .ref a_tk, .ref a_rs])), (a_tk, tkE tkk tkd tkp tkr tkc), (a_rs, .inl (kA, 41, .inl rsF))]) (va_runV (As := [.int p1, .int p2]) (rest := []) ⟨hx, hb, hml, hown, hts⟩ (c_X3_costOf l dC dI kA a_pl a_tk a_rs s.heap.size days tkk tkd tkp tkr tkc rsF p1 p2 _ h) (cwV 2 hts gX3_ratioPart_X3_costOf rfl rfl rfl (by decide +kernel) ⟨Nat.le_of_ble_eq_true rfl, Nat.le_of_ble_eq_true rfl⟩) (prW.preV (ci := 3) (q0 := 0) hPc hDc hK hN rfl rfl) rfl rfl hl.1 rfl (lv_room (Nat.le_of_ble_eq_true rfl)) dX3_ratioPart_3 ⟨Nat.le_of_ble_eq_true rfl, Nat.le_of_ble_eq_true rfl⟩) hP hD hS hA [0, 1, 2] [] rfl rfl (by decide) (by decide) [0, 1, 2] (by decide) (fun _ => rfl) (fun r3 u3 H locs h hP hD hS => ?_)
  have hP : va_P (dC, dI) vwCl [(a_pl, .inr (3, [.int days, .ref a_tk, .ref a_rs])), (a_tk, tkE tkk tkd tkp tkr tkc), (a_rs, .inl (kA, 41, .inl rsF))] H := hP
  have hD : va_D A [(a_pl, .inr (3, [.int days, .ref a_tk, .ref a_rs])), (a_tk, tkE tkk tkd tkp tkr tkc), (a_rs, .inl (kA, 41, .inl rsF))] := hD
  refine lv_i2l hx hb dX3_ratioPart_6 rfl ?_
  refine lv_aload_n hx hb dX3_ratioPart_7 rfl (lv_at hl 0 rfl) ?_
  refine lv_iload_n hx hb dX3_ratioPart_8 rfl (lv_at hl 2 rfl) ?_
  have hPc := hP.sub (ws' := [(a_pl, .inr (3, [.int days, .ref a_tk, .ref a_rs])), (a_tk, tkE tkk tkd tkp tkr tkc), (a_rs, .inl (kA, 41, .inl rsF))]) [0, 1, 2] rfl
  have hDc := hD.sub (ws' := [(a_pl, .inr (3, [.int days, .ref a_tk, .ref a_rs])), (a_tk, tkE tkk tkd tkp tkr tkc), (a_rs, .inl (kA, 41, .inl rsF))]) [0, 1, 2] (by decide) rfl
  refine fr_i (wr := []) (WN := fun (u9 : Unit) => [(a_pl, .inr (3, [.int days, .ref a_tk, .ref a_rs])), (a_tk, tkE tkk tkd tkp tkr tkc), (a_rs, .inl (kA, 41, .inl rsF))]) (va_runV (As := [.int p2]) (rest := [.long r3.toInt64]) ⟨hx, hb, hml, hown, hts⟩ (c_X3_knownBy l dC dI kA a_pl a_tk a_rs H.size days tkk tkd tkp tkr tkc rsF p2 _ h) (cwV 1 hts gX3_ratioPart_X3_knownBy rfl rfl rfl (by decide +kernel) ⟨Nat.le_of_ble_eq_true rfl, Nat.le_of_ble_eq_true rfl⟩) (prW.preV (ci := 3) (q0 := 0) hPc hDc hK hN rfl rfl) rfl rfl hl.1 rfl (lv_room (Nat.le_of_ble_eq_true rfl)) dX3_ratioPart_9 ⟨Nat.le_of_ble_eq_true rfl, Nat.le_of_ble_eq_true rfl⟩) hP hD hS hA [0, 1, 2] [] rfl rfl (by decide) (by decide) [0, 1, 2] (by decide) (fun _ => rfl) (fun r9 u9 H locs h hP hD hS => ?_)
  have hP : va_P (dC, dI) vwCl [(a_pl, .inr (3, [.int days, .ref a_tk, .ref a_rs])), (a_tk, tkE tkk tkd tkp tkr tkc), (a_rs, .inl (kA, 41, .inl rsF))] H := hP
  have hD : va_D A [(a_pl, .inr (3, [.int days, .ref a_tk, .ref a_rs])), (a_tk, tkE tkk tkd tkp tkr tkc), (a_rs, .inl (kA, 41, .inl rsF))] := hD
  refine lv_i2l hx hb dX3_ratioPart_12 rfl ?_
  refine lv_iload_n hx hb dX3_ratioPart_13 rfl (lv_at hl 3 rfl) ?_
  have hPc := hP.sub (ws' := []) [] rfl
  have hDc := hD.sub (ws' := []) [] (by decide) rfl
  refine fr_l (wr := [(a_pl, .inr (3, [.int days, .ref a_tk, .ref a_rs])), (a_tk, tkE tkk tkd tkp tkr tkc), (a_rs, .inl (kA, 41, .inl rsF))]) (WN := fun (u14 : Unit) => [(a_pl, .inr (3, [.int days, .ref a_tk, .ref a_rs])), (a_tk, tkE tkk tkd tkp tkr tkc), (a_rs, .inl (kA, 41, .inl rsF))]) (va_runSN (As := [.long r3.toInt64, .long r9.toInt64, .int p3]) (rest := []) ⟨hx, hb, hml, hown, hts⟩ (c_X6_leastForm l dC dI kA H.size r3.toInt64 r9.toInt64 p3 _ h) ⟨va_cnB 3 hts gX3_ratioPart_X6_leastForm_n51 rfl rfl rfl (hN.m 1 rfl) (hts (.initialized RX6) (List.mem_cons_of_mem _ (List.mem_append_left _ (List.mem_append_left _ (List.mem_append_left _ (List.mem_append_left _ (List.mem_of_getElem? (i := 16) rfl))))))) (by decide +kernel) ⟨Nat.le_of_ble_eq_true rfl, Nat.le_of_ble_eq_true rfl⟩, (hts (.static yX6_leastForm) (List.mem_cons_of_mem _ (List.mem_append_left _ (List.mem_append_left _ (List.mem_append_left _ (List.mem_append_left _ (List.mem_of_getElem? (i := 15) rfl))))))), trivial⟩ (prW.preS hPc hDc hK hN) rfl rfl hl.1 rfl (lv_room (Nat.le_of_ble_eq_true rfl)) dX3_ratioPart_14 ⟨Nat.le_of_ble_eq_true rfl, Nat.le_of_ble_eq_true rfl⟩) hP hD hS hA [] [0, 1, 2] rfl rfl (by decide) (by decide) [0, 1, 2] (by decide) (fun _ => rfl) (fun r14 u14 H locs h hP hD hS => ?_)
  have hP : va_P (dC, dI) vwCl [(a_pl, .inr (3, [.int days, .ref a_tk, .ref a_rs])), (a_tk, tkE tkk tkd tkp tkr tkc), (a_rs, .inl (kA, 41, .inl rsF))] H := hP
  have hD : va_D A [(a_pl, .inr (3, [.int days, .ref a_tk, .ref a_rs])), (a_tk, tkE tkk tkd tkp tkr tkc), (a_rs, .inl (kA, 41, .inl rsF))] := hD
  refine lv_l2i hx hb dX3_ratioPart_17 rfl ?_
  rw [hQ]
  exact rt_i () hx hb hr hlocks h hP hD hS dX3_ratioPart_18

/-- RentOrBuy$Plans.take, kind 0 -/
def rmX3_take_k0 : Room := { frames := 1, cells := 0, slots := 0, locals := 21 }
set_option maxHeartbeats 4000000 in
set_option maxRecDepth 100000 in
theorem c_X3_take_k0 (l : Launch) (dC : Nat → ClassId) (dI : Nat → Nat → Nat) (kA : ClassId) (a_pl a_tk a_rs a_o : Nat) (sz : Nat) (days : Int32) (tkd : Int32) (tkp : Int32) (rsF : Nat → Int32) (K : (Nat → Int32) → Prop) (hg : g_X3_take_k0 days tkd tkp rsF K) : Met l yX3_take wsX3_take rmX3_take_k0 (va_Pc [.ref a_pl, .ref a_tk] (prW (dC, dI) kA sz [(a_pl, .inr (3, [.int days, .ref a_o, .ref a_rs])), (a_tk, .inr (1, [.int tkd, .int tkp])), (a_rs, .inl (kA, 41, .inl rsF))])) (va_Qv (fun (u : (Nat → Int32)) => K u) (poW (dC, dI) (va_A [(a_pl, .inr (3, [.int days, .ref a_o, .ref a_rs])), (a_tk, .inr (1, [.int tkd, .int tkp])), (a_rs, .inl (kA, 41, .inl rsF))] sz) (fun (u : (Nat → Int32)) => [(a_pl, .inr (3, [.int days, .ref a_tk, .ref a_rs])), (a_tk, .inr (1, [.int tkd, .int tkp])), (a_rs, .inl (kA, 41, .inl u))])) (va_A [(a_pl, .inr (3, [.int days, .ref a_o, .ref a_rs])), (a_tk, .inr (1, [.int tkd, .int tkp])), (a_rs, .inl (kA, 41, .inl rsF))] sz)) 0 0 (va_A [(a_pl, .inr (3, [.int days, .ref a_o, .ref a_rs])), (a_tk, .inr (1, [.int tkd, .int tkp])), (a_rs, .inl (kA, 41, .inl rsF))] sz) := by
  refine Met.ofW (cc := cX3_take) (maxL := 3) (ret := none) (by decide) rfl ?_
  intro p e s m args below meth c s₁ B hml hv
  obtain ⟨hargs, hsz, hP, hK, hD0, hN⟩ := hv
  have hx := B.exec
  have hb := B.bytes
  have hr := B.returns
  have hts := atoms_spec (ws := wsX3_take) B.pre
  have hown : s.vm.findClass RX3 = some m.cls := findClass_of_methodNamed B.named
  have hlocks := B.notSynchronized
  subst hsz
  have hD := hD0.self (sz := s.heap.size)
  generalize hAe : va_A [(a_pl, .inr (3, [.int days, .ref a_o, .ref a_rs])), (a_tk, .inr (1, [.int tkd, .int tkp])), (a_rs, .inl (kA, 41, .inl rsF))] s.heap.size = A at hD ⊢
  have hA : ∀ q : Nat, s.heap.size ≤ q → A q := fun q h => by rw [← hAe]; exact Or.inr h
  have hS : va_S A s.heap s.heap [] := va_S.rf
  obtain ⟨Q, hQ⟩ : ∃ Q : State → Prop, Q = MQ below (va_Qv (fun (u : (Nat → Int32)) => K u) (poW (dC, dI) A (fun (u : (Nat → Int32)) => [(a_pl, .inr (3, [.int days, .ref a_tk, .ref a_rs])), (a_tk, .inr (1, [.int tkd, .int tkp])), (a_rs, .inl (kA, 41, .inl u))])) A) args s 0 0 A := ⟨_, rfl⟩
  rw [← hQ]
  have hP : va_P (dC, dI) vwCl [(a_pl, .inr (3, [.int days, .ref a_o, .ref a_rs])), (a_tk, .inr (1, [.int tkd, .int tkp])), (a_rs, .inl (kA, 41, .inl rsF))] s.heap := hP
  refine en_ok hargs (Nat.le_of_ble_eq_true rfl) (fun ls hl => ?_)
  have hl : lv_has ls 3 [(0, .ref a_pl), (1, .ref a_tk)] := hl
  have h := hg
  unfold g_X3_take_k0 at h
  refine lv_aload_n hx hb dX3_take_0 rfl (lv_at hl 0 rfl) ?_
  refine lv_aload_n hx hb dX3_take_1 rfl (lv_at hl 1 rfl) ?_
  refine va_put (D := (dC, dI)) (ci := 3) (v := .ref a_tk) (ty := (.object "RentOrBuy$Flat")) (C := RX3) (T := TX3) (N := 3) hx hb hts (fun _ h => List.mem_cons_of_mem _ (List.mem_append_left _ (List.mem_append_left _ (List.mem_append_left _ (List.mem_append_right _ h))))) tyX3 tyX3_ok nmX3 hown hK hP hD hS 0 rfl rfl 1 (by decide) (hts (.fieldLink RX3 20 "RentOrBuy$Plans" "taken" "LRentOrBuy$Flat;") (List.mem_cons_of_mem _ (List.mem_append_left _ (List.mem_append_left _ (List.mem_append_left _ (List.mem_append_left _ (List.mem_of_getElem? (i := 0) rfl))))))) (fun _ h9 => h9) rfl (by decide +kernel) rfl rfl (Nat.le_of_ble_eq_true rfl) dX3_take_2 (fun H locs hP hD hS => ?_)
  have hP : va_P (dC, dI) vwCl [(a_pl, .inr (3, [.int days, .ref a_tk, .ref a_rs])), (a_tk, .inr (1, [.int tkd, .int tkp])), (a_rs, .inl (kA, 41, .inl rsF))] H := hP
  have hD : va_D A [(a_pl, .inr (3, [.int days, .ref a_tk, .ref a_rs])), (a_tk, .inr (1, [.int tkd, .int tkp])), (a_rs, .inl (kA, 41, .inl rsF))] := hD
  refine lv_iconst (v := (1 : Int32)) hx hb dX3_take_5 (by decide +kernel) ?_
  refine lv_istore_n (lv' := [(2, .int (1 : Int32)), (0, .ref a_pl), (1, .ref a_tk)]) hx hb dX3_take_6 rfl hl (by decide) rfl (fun ls hl => ?_)
  obtain ⟨J7, ⟨n7, h⟩, hz7, hs7⟩ := h
  have hL7 : ∀ (n7 : Nat) (v2_7 : Int32) (rsF_7 : Nat → Int32), J7 n7 v2_7 rsF_7 → ∀ (H : Heap) (locs : List Loc) (ls : Array Slot), va_P (dC, dI) vwCl [(a_pl, .inr (3, [.int days, .ref a_tk, .ref a_rs])), (a_tk, .inr (1, [.int tkd, .int tkp])), (a_rs, .inl (kA, 41, .inl rsF_7))] H → va_D A [(a_pl, .inr (3, [.int days, .ref a_tk, .ref a_rs])), (a_tk, .inr (1, [.int tkd, .int tkp])), (a_rs, .inl (kA, 41, .inl rsF_7))] → va_S A s.heap H locs → lv_has ls 3 [(0, .ref a_pl), (1, .ref a_tk), (2, .int v2_7)] → W p l e (headSpec wsX3_take rmX3_take_k0).room s m args below meth c H locs 0 0 Q (F0 m 7 ls []) := by
    intro n7
    induction n7 with
    | zero => intro v2_7 rsF_7 h; exact absurd h (hz7 v2_7 rsF_7)
    | succ n7 ih7 =>
      intro v2_7 rsF_7 h H locs ls hP hD hS hl
      replace h := hs7 n7 v2_7 rsF_7 h
      refine lv_iload_n hx hb dX3_take_7 rfl (lv_at hl 2 rfl) ?_
      refine lv_bipush (v := (40 : Int32)) hx hb dX3_take_8 (by decide +kernel) ?_
      refine lv_icmp_gt (tgt := 39) hx hb dX3_take_10 (by decide) (fun c10 => ?_) (fun c10 => ?_)
      · replace h := h.1 c10
        rw [hQ]
        exact rt_v (rsF_7) hx hb hr hlocks h hP hD hS dX3_take_39
      · replace h := h.2 c10
        refine lv_aload_n hx hb dX3_take_13 rfl (lv_at hl 0 rfl) ?_
        refine va_get (D := (dC, dI)) (ci := 3) (v := .ref a_rs) (C := RX3) (T := TX3) (N := 3) hx hb hts (fun _ h => List.mem_cons_of_mem _ (List.mem_append_left _ (List.mem_append_left _ (List.mem_append_left _ (List.mem_append_right _ h))))) hown hK hP 0 rfl rfl 2 (by decide) (hts (.fieldLink RX3 24 "RentOrBuy$Plans" "rents" "[I") (List.mem_cons_of_mem _ (List.mem_append_left _ (List.mem_append_left _ (List.mem_append_left _ (List.mem_append_left _ (List.mem_of_getElem? (i := 1) rfl))))))) (fun _ h9 => h9) rfl dX3_take_14 ?_
        refine lv_iload_n hx hb dX3_take_17 rfl (lv_at hl 2 rfl) ?_
        refine lv_aload_n hx hb dX3_take_18 rfl (lv_at hl 0 rfl) ?_
        refine va_get (D := (dC, dI)) (ci := 3) (v := .ref a_rs) (C := RX3) (T := TX3) (N := 3) hx hb hts (fun _ h => List.mem_cons_of_mem _ (List.mem_append_left _ (List.mem_append_left _ (List.mem_append_left _ (List.mem_append_right _ h))))) hown hK hP 0 rfl rfl 2 (by decide) (hts (.fieldLink RX3 24 "RentOrBuy$Plans" "rents" "[I") (List.mem_cons_of_mem _ (List.mem_append_left _ (List.mem_append_left _ (List.mem_append_left _ (List.mem_append_left _ (List.mem_of_getElem? (i := 1) rfl))))))) (fun _ h9 => h9) rfl dX3_take_19 ?_
        refine lv_iload_n hx hb dX3_take_22 rfl (lv_at hl 2 rfl) ?_
        refine lv_iconst (v := (1 : Int32)) hx hb dX3_take_23 (by decide +kernel) ?_
        refine lv_isub hx hb dX3_take_24 ?_
        obtain ⟨hi25, h⟩ := h
        refine va_iald hx hb hK hP 2 0 rfl rfl hi25 dX3_take_25 ?_
        refine lv_aload_n hx hb dX3_take_26 rfl (lv_at hl 1 rfl) ?_
        refine lv_iload_n hx hb dX3_take_27 rfl (lv_at hl 2 rfl) ?_
        have hPc := hP.sub (ws' := [(a_tk, .inr (1, [.int tkd, .int tkp]))]) [1] rfl
        have hDc := hD.sub (ws' := [(a_tk, .inr (1, [.int tkd, .int tkp]))]) [1] (by decide) rfl
        refine fr_i (wr := [(a_pl, .inr (3, [.int days, .ref a_tk, .ref a_rs])), (a_rs, .inl (kA, 41, .inl rsF_7))]) (WN := fun (u28 : Unit) => [(a_pl, .inr (3, [.int days, .ref a_tk, .ref a_rs])), (a_tk, .inr (1, [.int tkd, .int tkp])), (a_rs, .inl (kA, 41, .inl rsF_7))]) (va_runV (As := [.int v2_7]) (rest := [.int (rsF_7 (v2_7 - (1 : Int32)).toNatClampNeg), .int v2_7, .ref a_rs]) ⟨hx, hb, hml, hown, hts⟩ (c_X1_rentOf_k0 l dC dI kA a_tk H.size tkd tkp v2_7 _ h) (cwV 1 hts gX3_take_X1_rentOf rfl rfl rfl (by decide +kernel) ⟨Nat.le_of_ble_eq_true rfl, Nat.le_of_ble_eq_true rfl⟩) (prW.preV (ci := 1) (q0 := 0) hPc hDc hK hN rfl rfl) rfl rfl hl.1 rfl (lv_room (Nat.le_of_ble_eq_true rfl)) dX3_take_28 ⟨Nat.le_of_ble_eq_true rfl, Nat.le_of_ble_eq_true rfl⟩) hP hD hS hA [1] [0, 2] rfl rfl (by decide) (by decide) [0, 2, 1] (by decide) (fun _ => rfl) (fun r28 u28 H locs h hP hD hS => ?_)
        have hP : va_P (dC, dI) vwCl [(a_pl, .inr (3, [.int days, .ref a_tk, .ref a_rs])), (a_tk, .inr (1, [.int tkd, .int tkp])), (a_rs, .inl (kA, 41, .inl rsF_7))] H := hP
        have hD : va_D A [(a_pl, .inr (3, [.int days, .ref a_tk, .ref a_rs])), (a_tk, .inr (1, [.int tkd, .int tkp])), (a_rs, .inl (kA, 41, .inl rsF_7))] := hD
        refine lv_iadd hx hb dX3_take_31 ?_
        obtain ⟨hi32, h⟩ := h
        refine va_iast hx hb hK hP hD hS 2 0 rfl rfl hi32 dX3_take_32 (fun H locs hP hD hS => ?_)
        have hP : va_P (dC, dI) vwCl [(a_pl, .inr (3, [.int days, .ref a_tk, .ref a_rs])), (a_tk, .inr (1, [.int tkd, .int tkp])), (a_rs, .inl (kA, 41, .inl (upd rsF_7 v2_7.toNatClampNeg ((rsF_7 (v2_7 - (1 : Int32)).toNatClampNeg) + r28))))] H := hP
        have hD : va_D A [(a_pl, .inr (3, [.int days, .ref a_tk, .ref a_rs])), (a_tk, .inr (1, [.int tkd, .int tkp])), (a_rs, .inl (kA, 41, .inl (upd rsF_7 v2_7.toNatClampNeg ((rsF_7 (v2_7 - (1 : Int32)).toNatClampNeg) + r28))))] := hD
        refine lv_iinc (v := (v2_7 + (1 : Int32))) (lv' := [(2, .int (v2_7 + (1 : Int32))), (0, .ref a_pl), (1, .ref a_tk)]) hx hb dX3_take_33 hl (k := 2) rfl (by rfl) (by decide) rfl (fun ls hl => ?_)
        refine lv_goto (tgt := 7) hx hb dX3_take_36 (by decide) ?_
        exact ih7 (v2_7 + (1 : Int32)) (upd rsF_7 v2_7.toNatClampNeg ((rsF_7 (v2_7 - (1 : Int32)).toNatClampNeg) + r28)) h _ _ _ hP hD hS (lv_sub hl [1, 2, 0] rfl)
  exact hL7 n7 (1 : Int32) rsF h _ _ _ hP hD hS (lv_sub hl [1, 2, 0] rfl)

/-- RentOrBuy$Rising.rentOf, kind 1 -/
def rmX4_rentOf_k1 : Room := { frames := 1, cells := 0, slots := 0, locals := 21 }
set_option maxHeartbeats 4000000 in
set_option maxRecDepth 100000 in
theorem c_X4_rentOf_k1 (l : Launch) (dC : Nat → ClassId) (dI : Nat → Nat → Nat) (kA : ClassId) (a_tk : Nat) (sz : Nat) (tkd : Int32) (tkp : Int32) (tkr : Int32) (p1 : Int32) (K : Int32 → Prop) (hg : g_X4_rentOf_k1 tkd tkp tkr p1 K) : Met l yX4_rentOf wsX4_rentOf rmX4_rentOf_k1 (va_Pc [.ref a_tk, .int p1] (prW (dC, dI) kA sz [(a_tk, .inr (4, [.int tkd, .int tkp, .int tkr]))])) (va_Qi (fun (r : Int32) (u : Unit) => K r) (poW (dC, dI) (va_A [(a_tk, .inr (4, [.int tkd, .int tkp, .int tkr]))] sz) (fun (u : Unit) => [(a_tk, .inr (4, [.int tkd, .int tkp, .int tkr]))])) (va_A [(a_tk, .inr (4, [.int tkd, .int tkp, .int tkr]))] sz)) 0 0 (va_A [(a_tk, .inr (4, [.int tkd, .int tkp, .int tkr]))] sz) := by
  refine Met.ofW (cc := cX4_rentOf) (maxL := 2) (ret := (some .int)) (by decide) rfl ?_
  intro p e s m args below meth c s₁ B hml hv
  obtain ⟨hargs, hsz, hP, hK, hD0, hN⟩ := hv
  have hx := B.exec
  have hb := B.bytes
  have hr := B.returns
  have hts := atoms_spec (ws := wsX4_rentOf) B.pre
  have hown : s.vm.findClass RX4 = some m.cls := findClass_of_methodNamed B.named
  have hlocks := B.notSynchronized
  subst hsz
  have hD := hD0.self (sz := s.heap.size)
  generalize hAe : va_A [(a_tk, .inr (4, [.int tkd, .int tkp, .int tkr]))] s.heap.size = A at hD ⊢
  have hA : ∀ q : Nat, s.heap.size ≤ q → A q := fun q h => by rw [← hAe]; exact Or.inr h
  have hS : va_S A s.heap s.heap [] := va_S.rf
  obtain ⟨Q, hQ⟩ : ∃ Q : State → Prop, Q = MQ below (va_Qi (fun (r : Int32) (u : Unit) => K r) (poW (dC, dI) A (fun (u : Unit) => [(a_tk, .inr (4, [.int tkd, .int tkp, .int tkr]))])) A) args s 0 0 A := ⟨_, rfl⟩
  rw [← hQ]
  have hP : va_P (dC, dI) vwCl [(a_tk, .inr (4, [.int tkd, .int tkp, .int tkr]))] s.heap := hP
  refine en_ok hargs (Nat.le_of_ble_eq_true rfl) (fun ls hl => ?_)
  have hl : lv_has ls 2 [(0, .ref a_tk), (1, .int p1)] := hl
  have h := hg
  unfold g_X4_rentOf_k1 at h
  refine lv_aload_n hx hb dX4_rentOf_0 rfl (lv_at hl 0 rfl) ?_
  refine lv_iload_n hx hb dX4_rentOf_1 rfl (lv_at hl 1 rfl) ?_
  have hPc := hP.sub (ws' := [(a_tk, .inr (4, [.int tkd, .int tkp, .int tkr]))]) [0] rfl
  have hDc := hD.sub (ws' := [(a_tk, .inr (4, [.int tkd, .int tkp, .int tkr]))]) [0] (by decide) rfl
  refine fr_i (wr := []) (WN := fun (u2 : Unit) => [(a_tk, .inr (4, [.int tkd, .int tkp, .int tkr]))]) (va_runSU ((hK.1 4 _ rfl).2) (As := [.int p1]) (rest := []) ⟨hx, hb, hml, hown, hts⟩ (c_X1_rentOf_k1 l dC dI kA a_tk s.heap.size tkd tkp tkr p1 _ h) (va_cwSU 1 hts gX4_rentOf_X1_rentOf_s15 rfl rfl rfl (by decide +kernel) ⟨Nat.le_of_ble_eq_true rfl, Nat.le_of_ble_eq_true rfl⟩) (prW.preV (ci := 4) (q0 := 0) hPc hDc hK hN rfl rfl) rfl rfl hl.1 rfl (lv_room (Nat.le_of_ble_eq_true rfl)) dX4_rentOf_2 ⟨Nat.le_of_ble_eq_true rfl, Nat.le_of_ble_eq_true rfl⟩) hP hD hS hA [0] [] rfl rfl (by decide) (by decide) [0] (by decide) (fun _ => rfl) (fun r2 u2 H locs h hP hD hS => ?_)
  have hP : va_P (dC, dI) vwCl [(a_tk, .inr (4, [.int tkd, .int tkp, .int tkr]))] H := hP
  have hD : va_D A [(a_tk, .inr (4, [.int tkd, .int tkp, .int tkr]))] := hD
  refine lv_aload_n hx hb dX4_rentOf_5 rfl (lv_at hl 0 rfl) ?_
  refine va_get (D := (dC, dI)) (ci := 4) (v := .int tkr) (C := RX4) (T := TX4) (N := 3) hx hb hts (fun _ h => List.mem_cons_of_mem _ (List.mem_append_left _ (List.mem_append_right _ h))) hown hK hP 0 rfl rfl 2 (by decide) (hts (.fieldLink RX4 9 "RentOrBuy$Rising" "rise" "I") (List.mem_cons_of_mem _ (List.mem_append_left _ (List.mem_append_left _ (List.mem_append_left _ (List.mem_of_getElem? (i := 0) rfl)))))) (fun _ h9 => h9) rfl dX4_rentOf_6 ?_
  refine lv_iload_n hx hb dX4_rentOf_9 rfl (lv_at hl 1 rfl) ?_
  refine lv_iconst (v := (1 : Int32)) hx hb dX4_rentOf_10 (by decide +kernel) ?_
  refine lv_isub hx hb dX4_rentOf_11 ?_
  refine lv_imul hx hb dX4_rentOf_12 ?_
  refine lv_iadd hx hb dX4_rentOf_13 ?_
  rw [hQ]
  exact rt_i () hx hb hr hlocks h hP hD hS dX4_rentOf_14

/-- RentOrBuy$Plans.take, kind 1 -/
def rmX3_take_k1 : Room := { frames := 2, cells := 0, slots := 0, locals := 42 }
set_option maxHeartbeats 4000000 in
set_option maxRecDepth 100000 in
theorem c_X3_take_k1 (l : Launch) (dC : Nat → ClassId) (dI : Nat → Nat → Nat) (kA : ClassId) (a_pl a_tk a_rs a_o : Nat) (sz : Nat) (days : Int32) (tkd : Int32) (tkp : Int32) (tkr : Int32) (rsF : Nat → Int32) (K : (Nat → Int32) → Prop) (hg : g_X3_take_k1 days tkd tkp tkr rsF K) : Met l yX3_take wsX3_take rmX3_take_k1 (va_Pc [.ref a_pl, .ref a_tk] (prW (dC, dI) kA sz [(a_pl, .inr (3, [.int days, .ref a_o, .ref a_rs])), (a_tk, .inr (4, [.int tkd, .int tkp, .int tkr])), (a_rs, .inl (kA, 41, .inl rsF))])) (va_Qv (fun (u : (Nat → Int32)) => K u) (poW (dC, dI) (va_A [(a_pl, .inr (3, [.int days, .ref a_o, .ref a_rs])), (a_tk, .inr (4, [.int tkd, .int tkp, .int tkr])), (a_rs, .inl (kA, 41, .inl rsF))] sz) (fun (u : (Nat → Int32)) => [(a_pl, .inr (3, [.int days, .ref a_tk, .ref a_rs])), (a_tk, .inr (4, [.int tkd, .int tkp, .int tkr])), (a_rs, .inl (kA, 41, .inl u))])) (va_A [(a_pl, .inr (3, [.int days, .ref a_o, .ref a_rs])), (a_tk, .inr (4, [.int tkd, .int tkp, .int tkr])), (a_rs, .inl (kA, 41, .inl rsF))] sz)) 0 0 (va_A [(a_pl, .inr (3, [.int days, .ref a_o, .ref a_rs])), (a_tk, .inr (4, [.int tkd, .int tkp, .int tkr])), (a_rs, .inl (kA, 41, .inl rsF))] sz) := by
  refine Met.ofW (cc := cX3_take) (maxL := 3) (ret := none) (by decide) rfl ?_
  intro p e s m args below meth c s₁ B hml hv
  obtain ⟨hargs, hsz, hP, hK, hD0, hN⟩ := hv
  have hx := B.exec
  have hb := B.bytes
  have hr := B.returns
  have hts := atoms_spec (ws := wsX3_take) B.pre
  have hown : s.vm.findClass RX3 = some m.cls := findClass_of_methodNamed B.named
  have hlocks := B.notSynchronized
  subst hsz
  have hD := hD0.self (sz := s.heap.size)
  generalize hAe : va_A [(a_pl, .inr (3, [.int days, .ref a_o, .ref a_rs])), (a_tk, .inr (4, [.int tkd, .int tkp, .int tkr])), (a_rs, .inl (kA, 41, .inl rsF))] s.heap.size = A at hD ⊢
  have hA : ∀ q : Nat, s.heap.size ≤ q → A q := fun q h => by rw [← hAe]; exact Or.inr h
  have hS : va_S A s.heap s.heap [] := va_S.rf
  obtain ⟨Q, hQ⟩ : ∃ Q : State → Prop, Q = MQ below (va_Qv (fun (u : (Nat → Int32)) => K u) (poW (dC, dI) A (fun (u : (Nat → Int32)) => [(a_pl, .inr (3, [.int days, .ref a_tk, .ref a_rs])), (a_tk, .inr (4, [.int tkd, .int tkp, .int tkr])), (a_rs, .inl (kA, 41, .inl u))])) A) args s 0 0 A := ⟨_, rfl⟩
  rw [← hQ]
  have hP : va_P (dC, dI) vwCl [(a_pl, .inr (3, [.int days, .ref a_o, .ref a_rs])), (a_tk, .inr (4, [.int tkd, .int tkp, .int tkr])), (a_rs, .inl (kA, 41, .inl rsF))] s.heap := hP
  refine en_ok hargs (Nat.le_of_ble_eq_true rfl) (fun ls hl => ?_)
  have hl : lv_has ls 3 [(0, .ref a_pl), (1, .ref a_tk)] := hl
  have h := hg
  unfold g_X3_take_k1 at h
  refine lv_aload_n hx hb dX3_take_0 rfl (lv_at hl 0 rfl) ?_
  refine lv_aload_n hx hb dX3_take_1 rfl (lv_at hl 1 rfl) ?_
  refine va_put (D := (dC, dI)) (ci := 3) (v := .ref a_tk) (ty := (.object "RentOrBuy$Flat")) (C := RX3) (T := TX3) (N := 3) hx hb hts (fun _ h => List.mem_cons_of_mem _ (List.mem_append_left _ (List.mem_append_left _ (List.mem_append_left _ (List.mem_append_right _ h))))) tyX3 tyX3_ok nmX3 hown hK hP hD hS 0 rfl rfl 1 (by decide) (hts (.fieldLink RX3 20 "RentOrBuy$Plans" "taken" "LRentOrBuy$Flat;") (List.mem_cons_of_mem _ (List.mem_append_left _ (List.mem_append_left _ (List.mem_append_left _ (List.mem_append_left _ (List.mem_of_getElem? (i := 0) rfl))))))) (fun _ h9 => h9) rfl (by decide +kernel) rfl rfl (Nat.le_of_ble_eq_true rfl) dX3_take_2 (fun H locs hP hD hS => ?_)
  have hP : va_P (dC, dI) vwCl [(a_pl, .inr (3, [.int days, .ref a_tk, .ref a_rs])), (a_tk, .inr (4, [.int tkd, .int tkp, .int tkr])), (a_rs, .inl (kA, 41, .inl rsF))] H := hP
  have hD : va_D A [(a_pl, .inr (3, [.int days, .ref a_tk, .ref a_rs])), (a_tk, .inr (4, [.int tkd, .int tkp, .int tkr])), (a_rs, .inl (kA, 41, .inl rsF))] := hD
  refine lv_iconst (v := (1 : Int32)) hx hb dX3_take_5 (by decide +kernel) ?_
  refine lv_istore_n (lv' := [(2, .int (1 : Int32)), (0, .ref a_pl), (1, .ref a_tk)]) hx hb dX3_take_6 rfl hl (by decide) rfl (fun ls hl => ?_)
  obtain ⟨J7, ⟨n7, h⟩, hz7, hs7⟩ := h
  have hL7 : ∀ (n7 : Nat) (v2_7 : Int32) (rsF_7 : Nat → Int32), J7 n7 v2_7 rsF_7 → ∀ (H : Heap) (locs : List Loc) (ls : Array Slot), va_P (dC, dI) vwCl [(a_pl, .inr (3, [.int days, .ref a_tk, .ref a_rs])), (a_tk, .inr (4, [.int tkd, .int tkp, .int tkr])), (a_rs, .inl (kA, 41, .inl rsF_7))] H → va_D A [(a_pl, .inr (3, [.int days, .ref a_tk, .ref a_rs])), (a_tk, .inr (4, [.int tkd, .int tkp, .int tkr])), (a_rs, .inl (kA, 41, .inl rsF_7))] → va_S A s.heap H locs → lv_has ls 3 [(0, .ref a_pl), (1, .ref a_tk), (2, .int v2_7)] → W p l e (headSpec wsX3_take rmX3_take_k1).room s m args below meth c H locs 0 0 Q (F0 m 7 ls []) := by
    intro n7
    induction n7 with
    | zero => intro v2_7 rsF_7 h; exact absurd h (hz7 v2_7 rsF_7)
    | succ n7 ih7 =>
      intro v2_7 rsF_7 h H locs ls hP hD hS hl
      replace h := hs7 n7 v2_7 rsF_7 h
      refine lv_iload_n hx hb dX3_take_7 rfl (lv_at hl 2 rfl) ?_
      refine lv_bipush (v := (40 : Int32)) hx hb dX3_take_8 (by decide +kernel) ?_
      refine lv_icmp_gt (tgt := 39) hx hb dX3_take_10 (by decide) (fun c10 => ?_) (fun c10 => ?_)
      · replace h := h.1 c10
        rw [hQ]
        exact rt_v (rsF_7) hx hb hr hlocks h hP hD hS dX3_take_39
      · replace h := h.2 c10
        refine lv_aload_n hx hb dX3_take_13 rfl (lv_at hl 0 rfl) ?_
        refine va_get (D := (dC, dI)) (ci := 3) (v := .ref a_rs) (C := RX3) (T := TX3) (N := 3) hx hb hts (fun _ h => List.mem_cons_of_mem _ (List.mem_append_left _ (List.mem_append_left _ (List.mem_append_left _ (List.mem_append_right _ h))))) hown hK hP 0 rfl rfl 2 (by decide) (hts (.fieldLink RX3 24 "RentOrBuy$Plans" "rents" "[I") (List.mem_cons_of_mem _ (List.mem_append_left _ (List.mem_append_left _ (List.mem_append_left _ (List.mem_append_left _ (List.mem_of_getElem? (i := 1) rfl))))))) (fun _ h9 => h9) rfl dX3_take_14 ?_
        refine lv_iload_n hx hb dX3_take_17 rfl (lv_at hl 2 rfl) ?_
        refine lv_aload_n hx hb dX3_take_18 rfl (lv_at hl 0 rfl) ?_
        refine va_get (D := (dC, dI)) (ci := 3) (v := .ref a_rs) (C := RX3) (T := TX3) (N := 3) hx hb hts (fun _ h => List.mem_cons_of_mem _ (List.mem_append_left _ (List.mem_append_left _ (List.mem_append_left _ (List.mem_append_right _ h))))) hown hK hP 0 rfl rfl 2 (by decide) (hts (.fieldLink RX3 24 "RentOrBuy$Plans" "rents" "[I") (List.mem_cons_of_mem _ (List.mem_append_left _ (List.mem_append_left _ (List.mem_append_left _ (List.mem_append_left _ (List.mem_of_getElem? (i := 1) rfl))))))) (fun _ h9 => h9) rfl dX3_take_19 ?_
        refine lv_iload_n hx hb dX3_take_22 rfl (lv_at hl 2 rfl) ?_
        refine lv_iconst (v := (1 : Int32)) hx hb dX3_take_23 (by decide +kernel) ?_
        refine lv_isub hx hb dX3_take_24 ?_
        obtain ⟨hi25, h⟩ := h
        refine va_iald hx hb hK hP 2 0 rfl rfl hi25 dX3_take_25 ?_
        refine lv_aload_n hx hb dX3_take_26 rfl (lv_at hl 1 rfl) ?_
        refine lv_iload_n hx hb dX3_take_27 rfl (lv_at hl 2 rfl) ?_
        have hPc := hP.sub (ws' := [(a_tk, .inr (4, [.int tkd, .int tkp, .int tkr]))]) [1] rfl
        have hDc := hD.sub (ws' := [(a_tk, .inr (4, [.int tkd, .int tkp, .int tkr]))]) [1] (by decide) rfl
        refine fr_i (wr := [(a_pl, .inr (3, [.int days, .ref a_tk, .ref a_rs])), (a_rs, .inl (kA, 41, .inl rsF_7))]) (WN := fun (u28 : Unit) => [(a_pl, .inr (3, [.int days, .ref a_tk, .ref a_rs])), (a_tk, .inr (4, [.int tkd, .int tkp, .int tkr])), (a_rs, .inl (kA, 41, .inl rsF_7))]) (va_runU (As := [.int v2_7]) (rest := [.int (rsF_7 (v2_7 - (1 : Int32)).toNatClampNeg), .int v2_7, .ref a_rs]) ⟨hx, hb, hml, hown, hts⟩ (c_X4_rentOf_k1 l dC dI kA a_tk H.size tkd tkp tkr v2_7 _ h) (va_cwO 1 hts gX3_take_X4_rentOf_u28X4 rfl rfl rfl (List.mem_cons_of_mem _ (List.mem_append_left _ (List.mem_append_left _ (List.mem_append_left _ (List.mem_append_left _ (List.mem_of_getElem? (i := 25) rfl)))))) (by decide +kernel) ⟨Nat.le_of_ble_eq_true rfl, Nat.le_of_ble_eq_true rfl⟩) (prW.preV (ci := 4) (q0 := 0) hPc hDc hK hN rfl rfl) rfl rfl hl.1 rfl (lv_room (Nat.le_of_ble_eq_true rfl)) dX3_take_28 ⟨Nat.le_of_ble_eq_true rfl, Nat.le_of_ble_eq_true rfl⟩) hP hD hS hA [1] [0, 2] rfl rfl (by decide) (by decide) [0, 2, 1] (by decide) (fun _ => rfl) (fun r28 u28 H locs h hP hD hS => ?_)
        have hP : va_P (dC, dI) vwCl [(a_pl, .inr (3, [.int days, .ref a_tk, .ref a_rs])), (a_tk, .inr (4, [.int tkd, .int tkp, .int tkr])), (a_rs, .inl (kA, 41, .inl rsF_7))] H := hP
        have hD : va_D A [(a_pl, .inr (3, [.int days, .ref a_tk, .ref a_rs])), (a_tk, .inr (4, [.int tkd, .int tkp, .int tkr])), (a_rs, .inl (kA, 41, .inl rsF_7))] := hD
        refine lv_iadd hx hb dX3_take_31 ?_
        obtain ⟨hi32, h⟩ := h
        refine va_iast hx hb hK hP hD hS 2 0 rfl rfl hi32 dX3_take_32 (fun H locs hP hD hS => ?_)
        have hP : va_P (dC, dI) vwCl [(a_pl, .inr (3, [.int days, .ref a_tk, .ref a_rs])), (a_tk, .inr (4, [.int tkd, .int tkp, .int tkr])), (a_rs, .inl (kA, 41, .inl (upd rsF_7 v2_7.toNatClampNeg ((rsF_7 (v2_7 - (1 : Int32)).toNatClampNeg) + r28))))] H := hP
        have hD : va_D A [(a_pl, .inr (3, [.int days, .ref a_tk, .ref a_rs])), (a_tk, .inr (4, [.int tkd, .int tkp, .int tkr])), (a_rs, .inl (kA, 41, .inl (upd rsF_7 v2_7.toNatClampNeg ((rsF_7 (v2_7 - (1 : Int32)).toNatClampNeg) + r28))))] := hD
        refine lv_iinc (v := (v2_7 + (1 : Int32))) (lv' := [(2, .int (v2_7 + (1 : Int32))), (0, .ref a_pl), (1, .ref a_tk)]) hx hb dX3_take_33 hl (k := 2) rfl (by rfl) (by decide) rfl (fun ls hl => ?_)
        refine lv_goto (tgt := 7) hx hb dX3_take_36 (by decide) ?_
        exact ih7 (v2_7 + (1 : Int32)) (upd rsF_7 v2_7.toNatClampNeg ((rsF_7 (v2_7 - (1 : Int32)).toNatClampNeg) + r28)) h _ _ _ hP hD hS (lv_sub hl [1, 2, 0] rfl)
  exact hL7 n7 (1 : Int32) rsF h _ _ _ hP hD hS (lv_sub hl [1, 2, 0] rfl)

/-- RentOrBuy$Plans.take, kind 2 -/
def rmX3_take_k2 : Room := { frames := 3, cells := 0, slots := 0, locals := 63 }
set_option maxHeartbeats 4000000 in
set_option maxRecDepth 100000 in
theorem c_X3_take_k2 (l : Launch) (dC : Nat → ClassId) (dI : Nat → Nat → Nat) (kA : ClassId) (a_pl a_tk a_rs a_o : Nat) (sz : Nat) (days : Int32) (tkr : Int32) (tkd : Int32) (tkp : Int32) (tkc : Int32) (rsF : Nat → Int32) (K : (Nat → Int32) → Prop) (hg : g_X3_take_k2 days tkr tkd tkp tkc rsF K) : Met l yX3_take wsX3_take rmX3_take_k2 (va_Pc [.ref a_pl, .ref a_tk] (prW (dC, dI) kA sz [(a_pl, .inr (3, [.int days, .ref a_o, .ref a_rs])), (a_tk, .inr (0, [.int tkr, .int tkd, .int tkp, .int tkc])), (a_rs, .inl (kA, 41, .inl rsF))])) (va_Qv (fun (u : (Nat → Int32)) => K u) (poW (dC, dI) (va_A [(a_pl, .inr (3, [.int days, .ref a_o, .ref a_rs])), (a_tk, .inr (0, [.int tkr, .int tkd, .int tkp, .int tkc])), (a_rs, .inl (kA, 41, .inl rsF))] sz) (fun (u : (Nat → Int32)) => [(a_pl, .inr (3, [.int days, .ref a_tk, .ref a_rs])), (a_tk, .inr (0, [.int tkr, .int tkd, .int tkp, .int tkc])), (a_rs, .inl (kA, 41, .inl u))])) (va_A [(a_pl, .inr (3, [.int days, .ref a_o, .ref a_rs])), (a_tk, .inr (0, [.int tkr, .int tkd, .int tkp, .int tkc])), (a_rs, .inl (kA, 41, .inl rsF))] sz)) 0 0 (va_A [(a_pl, .inr (3, [.int days, .ref a_o, .ref a_rs])), (a_tk, .inr (0, [.int tkr, .int tkd, .int tkp, .int tkc])), (a_rs, .inl (kA, 41, .inl rsF))] sz) := by
  refine Met.ofW (cc := cX3_take) (maxL := 3) (ret := none) (by decide) rfl ?_
  intro p e s m args below meth c s₁ B hml hv
  obtain ⟨hargs, hsz, hP, hK, hD0, hN⟩ := hv
  have hx := B.exec
  have hb := B.bytes
  have hr := B.returns
  have hts := atoms_spec (ws := wsX3_take) B.pre
  have hown : s.vm.findClass RX3 = some m.cls := findClass_of_methodNamed B.named
  have hlocks := B.notSynchronized
  subst hsz
  have hD := hD0.self (sz := s.heap.size)
  generalize hAe : va_A [(a_pl, .inr (3, [.int days, .ref a_o, .ref a_rs])), (a_tk, .inr (0, [.int tkr, .int tkd, .int tkp, .int tkc])), (a_rs, .inl (kA, 41, .inl rsF))] s.heap.size = A at hD ⊢
  have hA : ∀ q : Nat, s.heap.size ≤ q → A q := fun q h => by rw [← hAe]; exact Or.inr h
  have hS : va_S A s.heap s.heap [] := va_S.rf
  obtain ⟨Q, hQ⟩ : ∃ Q : State → Prop, Q = MQ below (va_Qv (fun (u : (Nat → Int32)) => K u) (poW (dC, dI) A (fun (u : (Nat → Int32)) => [(a_pl, .inr (3, [.int days, .ref a_tk, .ref a_rs])), (a_tk, .inr (0, [.int tkr, .int tkd, .int tkp, .int tkc])), (a_rs, .inl (kA, 41, .inl u))])) A) args s 0 0 A := ⟨_, rfl⟩
  rw [← hQ]
  have hP : va_P (dC, dI) vwCl [(a_pl, .inr (3, [.int days, .ref a_o, .ref a_rs])), (a_tk, .inr (0, [.int tkr, .int tkd, .int tkp, .int tkc])), (a_rs, .inl (kA, 41, .inl rsF))] s.heap := hP
  refine en_ok hargs (Nat.le_of_ble_eq_true rfl) (fun ls hl => ?_)
  have hl : lv_has ls 3 [(0, .ref a_pl), (1, .ref a_tk)] := hl
  have h := hg
  unfold g_X3_take_k2 at h
  refine lv_aload_n hx hb dX3_take_0 rfl (lv_at hl 0 rfl) ?_
  refine lv_aload_n hx hb dX3_take_1 rfl (lv_at hl 1 rfl) ?_
  refine va_put (D := (dC, dI)) (ci := 3) (v := .ref a_tk) (ty := (.object "RentOrBuy$Flat")) (C := RX3) (T := TX3) (N := 3) hx hb hts (fun _ h => List.mem_cons_of_mem _ (List.mem_append_left _ (List.mem_append_left _ (List.mem_append_left _ (List.mem_append_right _ h))))) tyX3 tyX3_ok nmX3 hown hK hP hD hS 0 rfl rfl 1 (by decide) (hts (.fieldLink RX3 20 "RentOrBuy$Plans" "taken" "LRentOrBuy$Flat;") (List.mem_cons_of_mem _ (List.mem_append_left _ (List.mem_append_left _ (List.mem_append_left _ (List.mem_append_left _ (List.mem_of_getElem? (i := 0) rfl))))))) (fun _ h9 => h9) rfl (by decide +kernel) rfl rfl (Nat.le_of_ble_eq_true rfl) dX3_take_2 (fun H locs hP hD hS => ?_)
  have hP : va_P (dC, dI) vwCl [(a_pl, .inr (3, [.int days, .ref a_tk, .ref a_rs])), (a_tk, .inr (0, [.int tkr, .int tkd, .int tkp, .int tkc])), (a_rs, .inl (kA, 41, .inl rsF))] H := hP
  have hD : va_D A [(a_pl, .inr (3, [.int days, .ref a_tk, .ref a_rs])), (a_tk, .inr (0, [.int tkr, .int tkd, .int tkp, .int tkc])), (a_rs, .inl (kA, 41, .inl rsF))] := hD
  refine lv_iconst (v := (1 : Int32)) hx hb dX3_take_5 (by decide +kernel) ?_
  refine lv_istore_n (lv' := [(2, .int (1 : Int32)), (0, .ref a_pl), (1, .ref a_tk)]) hx hb dX3_take_6 rfl hl (by decide) rfl (fun ls hl => ?_)
  obtain ⟨J7, ⟨n7, h⟩, hz7, hs7⟩ := h
  have hL7 : ∀ (n7 : Nat) (v2_7 : Int32) (rsF_7 : Nat → Int32), J7 n7 v2_7 rsF_7 → ∀ (H : Heap) (locs : List Loc) (ls : Array Slot), va_P (dC, dI) vwCl [(a_pl, .inr (3, [.int days, .ref a_tk, .ref a_rs])), (a_tk, .inr (0, [.int tkr, .int tkd, .int tkp, .int tkc])), (a_rs, .inl (kA, 41, .inl rsF_7))] H → va_D A [(a_pl, .inr (3, [.int days, .ref a_tk, .ref a_rs])), (a_tk, .inr (0, [.int tkr, .int tkd, .int tkp, .int tkc])), (a_rs, .inl (kA, 41, .inl rsF_7))] → va_S A s.heap H locs → lv_has ls 3 [(0, .ref a_pl), (1, .ref a_tk), (2, .int v2_7)] → W p l e (headSpec wsX3_take rmX3_take_k2).room s m args below meth c H locs 0 0 Q (F0 m 7 ls []) := by
    intro n7
    induction n7 with
    | zero => intro v2_7 rsF_7 h; exact absurd h (hz7 v2_7 rsF_7)
    | succ n7 ih7 =>
      intro v2_7 rsF_7 h H locs ls hP hD hS hl
      replace h := hs7 n7 v2_7 rsF_7 h
      refine lv_iload_n hx hb dX3_take_7 rfl (lv_at hl 2 rfl) ?_
      refine lv_bipush (v := (40 : Int32)) hx hb dX3_take_8 (by decide +kernel) ?_
      refine lv_icmp_gt (tgt := 39) hx hb dX3_take_10 (by decide) (fun c10 => ?_) (fun c10 => ?_)
      · replace h := h.1 c10
        rw [hQ]
        exact rt_v (rsF_7) hx hb hr hlocks h hP hD hS dX3_take_39
      · replace h := h.2 c10
        refine lv_aload_n hx hb dX3_take_13 rfl (lv_at hl 0 rfl) ?_
        refine va_get (D := (dC, dI)) (ci := 3) (v := .ref a_rs) (C := RX3) (T := TX3) (N := 3) hx hb hts (fun _ h => List.mem_cons_of_mem _ (List.mem_append_left _ (List.mem_append_left _ (List.mem_append_left _ (List.mem_append_right _ h))))) hown hK hP 0 rfl rfl 2 (by decide) (hts (.fieldLink RX3 24 "RentOrBuy$Plans" "rents" "[I") (List.mem_cons_of_mem _ (List.mem_append_left _ (List.mem_append_left _ (List.mem_append_left _ (List.mem_append_left _ (List.mem_of_getElem? (i := 1) rfl))))))) (fun _ h9 => h9) rfl dX3_take_14 ?_
        refine lv_iload_n hx hb dX3_take_17 rfl (lv_at hl 2 rfl) ?_
        refine lv_aload_n hx hb dX3_take_18 rfl (lv_at hl 0 rfl) ?_
        refine va_get (D := (dC, dI)) (ci := 3) (v := .ref a_rs) (C := RX3) (T := TX3) (N := 3) hx hb hts (fun _ h => List.mem_cons_of_mem _ (List.mem_append_left _ (List.mem_append_left _ (List.mem_append_left _ (List.mem_append_right _ h))))) hown hK hP 0 rfl rfl 2 (by decide) (hts (.fieldLink RX3 24 "RentOrBuy$Plans" "rents" "[I") (List.mem_cons_of_mem _ (List.mem_append_left _ (List.mem_append_left _ (List.mem_append_left _ (List.mem_append_left _ (List.mem_of_getElem? (i := 1) rfl))))))) (fun _ h9 => h9) rfl dX3_take_19 ?_
        refine lv_iload_n hx hb dX3_take_22 rfl (lv_at hl 2 rfl) ?_
        refine lv_iconst (v := (1 : Int32)) hx hb dX3_take_23 (by decide +kernel) ?_
        refine lv_isub hx hb dX3_take_24 ?_
        obtain ⟨hi25, h⟩ := h
        refine va_iald hx hb hK hP 2 0 rfl rfl hi25 dX3_take_25 ?_
        refine lv_aload_n hx hb dX3_take_26 rfl (lv_at hl 1 rfl) ?_
        refine lv_iload_n hx hb dX3_take_27 rfl (lv_at hl 2 rfl) ?_
        have hPc := hP.sub (ws' := [(a_tk, .inr (0, [.int tkr, .int tkd, .int tkp, .int tkc]))]) [1] rfl
        have hDc := hD.sub (ws' := [(a_tk, .inr (0, [.int tkr, .int tkd, .int tkp, .int tkc]))]) [1] (by decide) rfl
        refine fr_i (wr := [(a_pl, .inr (3, [.int days, .ref a_tk, .ref a_rs])), (a_rs, .inl (kA, 41, .inl rsF_7))]) (WN := fun (u28 : Unit) => [(a_pl, .inr (3, [.int days, .ref a_tk, .ref a_rs])), (a_tk, .inr (0, [.int tkr, .int tkd, .int tkp, .int tkc])), (a_rs, .inl (kA, 41, .inl rsF_7))]) (va_runU (As := [.int v2_7]) (rest := [.int (rsF_7 (v2_7 - (1 : Int32)).toNatClampNeg), .int v2_7, .ref a_rs]) ⟨hx, hb, hml, hown, hts⟩ (c_X0_rentOf_k2 l dC dI kA a_tk H.size tkr tkd tkp tkc v2_7 _ h) (va_cwO 1 hts gX3_take_X0_rentOf_u28X0 rfl rfl rfl (List.mem_cons_of_mem _ (List.mem_append_left _ (List.mem_append_left _ (List.mem_append_left _ (List.mem_append_left _ (List.mem_of_getElem? (i := 25) rfl)))))) (by decide +kernel) ⟨Nat.le_of_ble_eq_true rfl, Nat.le_of_ble_eq_true rfl⟩) (prW.preV (ci := 0) (q0 := 0) hPc hDc hK hN rfl rfl) rfl rfl hl.1 rfl (lv_room (Nat.le_of_ble_eq_true rfl)) dX3_take_28 ⟨Nat.le_of_ble_eq_true rfl, Nat.le_of_ble_eq_true rfl⟩) hP hD hS hA [1] [0, 2] rfl rfl (by decide) (by decide) [0, 2, 1] (by decide) (fun _ => rfl) (fun r28 u28 H locs h hP hD hS => ?_)
        have hP : va_P (dC, dI) vwCl [(a_pl, .inr (3, [.int days, .ref a_tk, .ref a_rs])), (a_tk, .inr (0, [.int tkr, .int tkd, .int tkp, .int tkc])), (a_rs, .inl (kA, 41, .inl rsF_7))] H := hP
        have hD : va_D A [(a_pl, .inr (3, [.int days, .ref a_tk, .ref a_rs])), (a_tk, .inr (0, [.int tkr, .int tkd, .int tkp, .int tkc])), (a_rs, .inl (kA, 41, .inl rsF_7))] := hD
        refine lv_iadd hx hb dX3_take_31 ?_
        obtain ⟨hi32, h⟩ := h
        refine va_iast hx hb hK hP hD hS 2 0 rfl rfl hi32 dX3_take_32 (fun H locs hP hD hS => ?_)
        have hP : va_P (dC, dI) vwCl [(a_pl, .inr (3, [.int days, .ref a_tk, .ref a_rs])), (a_tk, .inr (0, [.int tkr, .int tkd, .int tkp, .int tkc])), (a_rs, .inl (kA, 41, .inl (upd rsF_7 v2_7.toNatClampNeg ((rsF_7 (v2_7 - (1 : Int32)).toNatClampNeg) + r28))))] H := hP
        have hD : va_D A [(a_pl, .inr (3, [.int days, .ref a_tk, .ref a_rs])), (a_tk, .inr (0, [.int tkr, .int tkd, .int tkp, .int tkc])), (a_rs, .inl (kA, 41, .inl (upd rsF_7 v2_7.toNatClampNeg ((rsF_7 (v2_7 - (1 : Int32)).toNatClampNeg) + r28))))] := hD
        refine lv_iinc (v := (v2_7 + (1 : Int32))) (lv' := [(2, .int (v2_7 + (1 : Int32))), (0, .ref a_pl), (1, .ref a_tk)]) hx hb dX3_take_33 hl (k := 2) rfl (by rfl) (by decide) rfl (fun ls hl => ?_)
        refine lv_goto (tgt := 7) hx hb dX3_take_36 (by decide) ?_
        exact ih7 (v2_7 + (1 : Int32)) (upd rsF_7 v2_7.toNatClampNeg ((rsF_7 (v2_7 - (1 : Int32)).toNatClampNeg) + r28)) h _ _ _ hP hD hS (lv_sub hl [1, 2, 0] rfl)
  exact hL7 n7 (1 : Int32) rsF h _ _ _ hP hD hS (lv_sub hl [1, 2, 0] rfl)

/-- RentOrBuy$Rising.bodiesAsked, kind 1 -/
def rmX4_bodiesAsked_k1 : Room := { frames := 1, cells := 0, slots := 0, locals := 20 }
set_option maxHeartbeats 4000000 in
set_option maxRecDepth 100000 in
theorem c_X4_bodiesAsked_k1 (l : Launch) (dC : Nat → ClassId) (dI : Nat → Nat → Nat) (kA : ClassId) (a_tk : Nat) (sz : Nat) (tkd : Int32) (tkp : Int32) (tkr : Int32) (K : Int32 → Prop) (hg : g_X4_bodiesAsked_k1 tkd tkp tkr K) : Met l yX4_bodiesAsked wsX4_bodiesAsked rmX4_bodiesAsked_k1 (va_Pc [.ref a_tk] (prW (dC, dI) kA sz [(a_tk, .inr (4, [.int tkd, .int tkp, .int tkr]))])) (va_Qi (fun (r : Int32) (u : Unit) => K r) (poW (dC, dI) (va_A [(a_tk, .inr (4, [.int tkd, .int tkp, .int tkr]))] sz) (fun (u : Unit) => [(a_tk, .inr (4, [.int tkd, .int tkp, .int tkr]))])) (va_A [(a_tk, .inr (4, [.int tkd, .int tkp, .int tkr]))] sz)) 0 0 (va_A [(a_tk, .inr (4, [.int tkd, .int tkp, .int tkr]))] sz) := by
  refine Met.ofW (cc := cX4_bodiesAsked) (maxL := 1) (ret := (some .int)) (by decide) rfl ?_
  intro p e s m args below meth c s₁ B hml hv
  obtain ⟨hargs, hsz, hP, hK, hD0, hN⟩ := hv
  have hx := B.exec
  have hb := B.bytes
  have hr := B.returns
  have hts := atoms_spec (ws := wsX4_bodiesAsked) B.pre
  have hown : s.vm.findClass RX4 = some m.cls := findClass_of_methodNamed B.named
  have hlocks := B.notSynchronized
  subst hsz
  have hD := hD0.self (sz := s.heap.size)
  generalize hAe : va_A [(a_tk, .inr (4, [.int tkd, .int tkp, .int tkr]))] s.heap.size = A at hD ⊢
  have hA : ∀ q : Nat, s.heap.size ≤ q → A q := fun q h => by rw [← hAe]; exact Or.inr h
  have hS : va_S A s.heap s.heap [] := va_S.rf
  obtain ⟨Q, hQ⟩ : ∃ Q : State → Prop, Q = MQ below (va_Qi (fun (r : Int32) (u : Unit) => K r) (poW (dC, dI) A (fun (u : Unit) => [(a_tk, .inr (4, [.int tkd, .int tkp, .int tkr]))])) A) args s 0 0 A := ⟨_, rfl⟩
  rw [← hQ]
  have hP : va_P (dC, dI) vwCl [(a_tk, .inr (4, [.int tkd, .int tkp, .int tkr]))] s.heap := hP
  refine en_ok hargs (Nat.le_of_ble_eq_true rfl) (fun ls hl => ?_)
  have hl : lv_has ls 1 [(0, .ref a_tk)] := hl
  have h := hg
  unfold g_X4_bodiesAsked_k1 at h
  refine lv_aload_n hx hb dX4_bodiesAsked_0 rfl (lv_at hl 0 rfl) ?_
  have hPc := hP.sub (ws' := [(a_tk, .inr (4, [.int tkd, .int tkp, .int tkr]))]) [0] rfl
  have hDc := hD.sub (ws' := [(a_tk, .inr (4, [.int tkd, .int tkp, .int tkr]))]) [0] (by decide) rfl
  refine fr_i (wr := []) (WN := fun (u1 : Unit) => [(a_tk, .inr (4, [.int tkd, .int tkp, .int tkr]))]) (va_runSU ((hK.1 4 _ rfl).2) (As := []) (rest := []) ⟨hx, hb, hml, hown, hts⟩ (c_X1_bodiesAsked_k1 l dC dI kA a_tk s.heap.size tkd tkp tkr _ h) (va_cwSU 0 hts gX4_bodiesAsked_X1_bodiesAsked_s19 rfl rfl rfl (by decide +kernel) ⟨Nat.le_of_ble_eq_true rfl, Nat.le_of_ble_eq_true rfl⟩) (prW.preV (ci := 4) (q0 := 0) hPc hDc hK hN rfl rfl) rfl rfl hl.1 rfl (lv_room (Nat.le_of_ble_eq_true rfl)) dX4_bodiesAsked_1 ⟨Nat.le_of_ble_eq_true rfl, Nat.le_of_ble_eq_true rfl⟩) hP hD hS hA [0] [] rfl rfl (by decide) (by decide) [0] (by decide) (fun _ => rfl) (fun r1 u1 H locs h hP hD hS => ?_)
  have hP : va_P (dC, dI) vwCl [(a_tk, .inr (4, [.int tkd, .int tkp, .int tkr]))] H := hP
  have hD : va_D A [(a_tk, .inr (4, [.int tkd, .int tkp, .int tkr]))] := hD
  refine lv_bipush (v := (10 : Int32)) hx hb dX4_bodiesAsked_4 (by decide +kernel) ?_
  refine lv_iadd hx hb dX4_bodiesAsked_6 ?_
  rw [hQ]
  exact rt_i () hx hb hr hlocks h hP hD hS dX4_bodiesAsked_7

/-- RentOrBuy$Rising.<init>, kind 1 -/
def rmX4_init_k1 : Room := { frames := 2, cells := 0, slots := 0, locals := 34 }
set_option maxHeartbeats 4000000 in
set_option maxRecDepth 100000 in
theorem c_X4_init_k1 (l : Launch) (dC : Nat → ClassId) (dI : Nat → Nat → Nat) (kA : ClassId) (a_tk : Nat) (sz : Nat) (p1 : Int32) (p2 : Int32) (p3 : Int32) (K : Int32 → Int32 → Int32 → Prop) (hg : g_X4_init_k1 p1 p2 p3 K) : Met l yX4_init wsX4_init rmX4_init_k1 (va_Pc [.ref a_tk, .int p1, .int p2, .int p3] (prW (dC, dI) kA sz [(a_tk, .inr (4, [.int 0, .int 0, .int 0]))])) (va_Qv (fun (u : Int32 × Int32 × Int32) => K u.1 u.2.1 u.2.2) (poW (dC, dI) (va_A [(a_tk, .inr (4, [.int 0, .int 0, .int 0]))] sz) (fun (u : Int32 × Int32 × Int32) => [(a_tk, .inr (4, [.int u.1, .int u.2.1, .int u.2.2]))])) (va_A [(a_tk, .inr (4, [.int 0, .int 0, .int 0]))] sz)) 0 0 (va_A [(a_tk, .inr (4, [.int 0, .int 0, .int 0]))] sz) := by
  refine Met.ofW (cc := cX4_init) (maxL := 4) (ret := none) (by decide) rfl ?_
  intro p e s m args below meth c s₁ B hml hv
  obtain ⟨hargs, hsz, hP, hK, hD0, hN⟩ := hv
  have hx := B.exec
  have hb := B.bytes
  have hr := B.returns
  have hts := atoms_spec (ws := wsX4_init) B.pre
  have hown : s.vm.findClass RX4 = some m.cls := findClass_of_methodNamed B.named
  have hlocks := B.notSynchronized
  have hin : meth.name = "<init>" := (name_of_methodNamed B.named B.method).1
  subst hsz
  have hD := hD0.self (sz := s.heap.size)
  generalize hAe : va_A [(a_tk, .inr (4, [.int 0, .int 0, .int 0]))] s.heap.size = A at hD ⊢
  have hA : ∀ q : Nat, s.heap.size ≤ q → A q := fun q h => by rw [← hAe]; exact Or.inr h
  have hS : va_S A s.heap s.heap [] := va_S.rf
  obtain ⟨Q, hQ⟩ : ∃ Q : State → Prop, Q = MQ below (va_Qv (fun (u : Int32 × Int32 × Int32) => K u.1 u.2.1 u.2.2) (poW (dC, dI) A (fun (u : Int32 × Int32 × Int32) => [(a_tk, .inr (4, [.int u.1, .int u.2.1, .int u.2.2]))])) A) args s 0 0 A := ⟨_, rfl⟩
  rw [← hQ]
  have hP : va_P (dC, dI) vwCl [(a_tk, .inr (4, [.int 0, .int 0, .int 0]))] s.heap := hP
  refine en_ok hargs (Nat.le_of_ble_eq_true rfl) (fun ls hl => ?_)
  have hl : lv_has ls 4 [(0, .ref a_tk), (1, .int p1), (2, .int p2), (3, .int p3)] := hl
  have h := hg
  unfold g_X4_init_k1 at h
  refine lv_aload_n hx hb dX4_init_0 rfl (lv_at hl 0 rfl) ?_
  refine lv_iload_n hx hb dX4_init_1 rfl (lv_at hl 1 rfl) ?_
  refine lv_iload_n hx hb dX4_init_2 rfl (lv_at hl 3 rfl) ?_
  have hPc := hP.sub (ws' := [(a_tk, .inr (4, [.int 0, .int 0, .int 0]))]) [0] rfl
  have hDc := hD.sub (ws' := [(a_tk, .inr (4, [.int 0, .int 0, .int 0]))]) [0] (by decide) rfl
  refine fr_v (wr := []) (WN := fun (u3 : Int32 × Int32) => [(a_tk, .inr (4, [.int u3.1, .int u3.2, .int 0]))]) (va_runI (As := [.int p1, .int p3]) (rest := []) ⟨hx, hb, hml, hown, hts⟩ (c_X1_init_k1 l dC dI kA a_tk s.heap.size p1 p3 _ h) (cwI 2 hts gX4_init_X1_init rfl rfl rfl (hts (.initialized RX1) (List.mem_cons_of_mem _ (List.mem_append_left _ (List.mem_append_left _ (List.mem_append_left _ (List.mem_of_getElem? (i := 3) rfl)))))) (hts (.methodLink RX4 3 yX1_init) (List.mem_cons_of_mem _ (List.mem_append_left _ (List.mem_append_left _ (List.mem_append_left _ (List.mem_of_getElem? (i := 1) rfl)))))) (hts (.instanceMethod yX1_init) (List.mem_cons_of_mem _ (List.mem_append_left _ (List.mem_append_left _ (List.mem_append_left _ (List.mem_of_getElem? (i := 2) rfl)))))) rfl (by decide +kernel) ⟨Nat.le_of_ble_eq_true rfl, Nat.le_of_ble_eq_true rfl⟩) (prW.preS hPc hDc hK hN) rfl rfl hl.1 rfl (lv_room (Nat.le_of_ble_eq_true rfl)) dX4_init_3 ⟨Nat.le_of_ble_eq_true rfl, Nat.le_of_ble_eq_true rfl⟩) hP hD hS hA [0] [] rfl rfl (by decide) (by decide) [0] (by decide) (fun _ => rfl) (fun u3 H locs h hP hD hS => ?_)
  obtain ⟨y3_tkd', y3_tkp'⟩ := u3
  have hP : va_P (dC, dI) vwCl [(a_tk, .inr (4, [.int y3_tkd', .int y3_tkp', .int 0]))] H := hP
  have hD : va_D A [(a_tk, .inr (4, [.int y3_tkd', .int y3_tkp', .int 0]))] := hD
  refine lv_aload_n hx hb dX4_init_6 rfl (lv_at hl 0 rfl) ?_
  refine lv_iload_n hx hb dX4_init_7 rfl (lv_at hl 2 rfl) ?_
  refine va_putF (D := (dC, dI)) (ci := 4) (v := .int p2) (ty := .int) (C := RX4) (T := TX4) (N := 3) hx hb hts (fun _ h => List.mem_cons_of_mem _ (List.mem_append_left _ (List.mem_append_right _ h))) tyX4 tyX4_ok nmX4 hown hK hP hD hS 0 rfl rfl 2 (by decide) (hts (.fieldLink RX4 9 "RentOrBuy$Rising" "rise" "I") (List.mem_cons_of_mem _ (List.mem_append_left _ (List.mem_append_left _ (List.mem_append_left _ (List.mem_of_getElem? (i := 0) rfl)))))) (fun _ h9 => h9) rfl hin rfl (by decide +kernel) rfl rfl (Nat.le_of_ble_eq_true rfl) dX4_init_8 (fun H locs hP hD hS => ?_)
  have hP : va_P (dC, dI) vwCl [(a_tk, .inr (4, [.int y3_tkd', .int y3_tkp', .int p2]))] H := hP
  have hD : va_D A [(a_tk, .inr (4, [.int y3_tkd', .int y3_tkp', .int p2]))] := hD
  rw [hQ]
  exact rt_v (y3_tkd', y3_tkp', p2) hx hb hr hlocks h hP hD hS dX4_init_11

/-- RentOrBuy$Rising.kindNumber, kind 1 -/
def rmX4_kindNumber_k1 : Room := { frames := 0, cells := 0, slots := 0, locals := 0 }
set_option maxHeartbeats 4000000 in
set_option maxRecDepth 100000 in
theorem c_X4_kindNumber_k1 (l : Launch) (dC : Nat → ClassId) (dI : Nat → Nat → Nat) (kA : ClassId) (a_tk : Nat) (sz : Nat) (tkd : Int32) (tkp : Int32) (tkr : Int32) (K : Int32 → Prop) (hg : g_X4_kindNumber_k1 tkd tkp tkr K) : Met l yX4_kindNumber wsX4_kindNumber rmX4_kindNumber_k1 (va_Pc [.ref a_tk] (prW (dC, dI) kA sz [(a_tk, .inr (4, [.int tkd, .int tkp, .int tkr]))])) (va_Qi (fun (r : Int32) (u : Unit) => K r) (poW (dC, dI) (va_A [(a_tk, .inr (4, [.int tkd, .int tkp, .int tkr]))] sz) (fun (u : Unit) => [(a_tk, .inr (4, [.int tkd, .int tkp, .int tkr]))])) (va_A [(a_tk, .inr (4, [.int tkd, .int tkp, .int tkr]))] sz)) 0 0 (va_A [(a_tk, .inr (4, [.int tkd, .int tkp, .int tkr]))] sz) := by
  refine Met.ofW (cc := cX4_kindNumber) (maxL := 1) (ret := (some .int)) (by decide) rfl ?_
  intro p e s m args below meth c s₁ B hml hv
  obtain ⟨hargs, hsz, hP, hK, hD0, hN⟩ := hv
  have hx := B.exec
  have hb := B.bytes
  have hr := B.returns
  have hts := atoms_spec (ws := wsX4_kindNumber) B.pre
  have hown : s.vm.findClass RX4 = some m.cls := findClass_of_methodNamed B.named
  have hlocks := B.notSynchronized
  subst hsz
  have hD := hD0.self (sz := s.heap.size)
  generalize hAe : va_A [(a_tk, .inr (4, [.int tkd, .int tkp, .int tkr]))] s.heap.size = A at hD ⊢
  have hA : ∀ q : Nat, s.heap.size ≤ q → A q := fun q h => by rw [← hAe]; exact Or.inr h
  have hS : va_S A s.heap s.heap [] := va_S.rf
  obtain ⟨Q, hQ⟩ : ∃ Q : State → Prop, Q = MQ below (va_Qi (fun (r : Int32) (u : Unit) => K r) (poW (dC, dI) A (fun (u : Unit) => [(a_tk, .inr (4, [.int tkd, .int tkp, .int tkr]))])) A) args s 0 0 A := ⟨_, rfl⟩
  rw [← hQ]
  have hP : va_P (dC, dI) vwCl [(a_tk, .inr (4, [.int tkd, .int tkp, .int tkr]))] s.heap := hP
  refine en_ok hargs (Nat.le_of_ble_eq_true rfl) (fun ls hl => ?_)
  have hl : lv_has ls 1 [(0, .ref a_tk)] := hl
  have h := hg
  unfold g_X4_kindNumber_k1 at h
  refine lv_iconst (v := (1 : Int32)) hx hb dX4_kindNumber_0 (by decide +kernel) ?_
  rw [hQ]
  exact rt_i () hx hb hr hlocks h hP hD hS dX4_kindNumber_1

/-- RentOrBuy$Rising.kindNumber, kind 2 -/
def rmX4_kindNumber_k2 : Room := { frames := 0, cells := 0, slots := 0, locals := 0 }
set_option maxHeartbeats 4000000 in
set_option maxRecDepth 100000 in
theorem c_X4_kindNumber_k2 (l : Launch) (dC : Nat → ClassId) (dI : Nat → Nat → Nat) (kA : ClassId) (a_tk : Nat) (sz : Nat) (tkr : Int32) (tkd : Int32) (tkp : Int32) (tkc : Int32) (K : Int32 → Prop) (hg : g_X4_kindNumber_k2 tkr tkd tkp tkc K) : Met l yX4_kindNumber wsX4_kindNumber rmX4_kindNumber_k2 (va_Pc [.ref a_tk] (prW (dC, dI) kA sz [(a_tk, .inr (0, [.int tkr, .int tkd, .int tkp, .int tkc]))])) (va_Qi (fun (r : Int32) (u : Unit) => K r) (poW (dC, dI) (va_A [(a_tk, .inr (0, [.int tkr, .int tkd, .int tkp, .int tkc]))] sz) (fun (u : Unit) => [(a_tk, .inr (0, [.int tkr, .int tkd, .int tkp, .int tkc]))])) (va_A [(a_tk, .inr (0, [.int tkr, .int tkd, .int tkp, .int tkc]))] sz)) 0 0 (va_A [(a_tk, .inr (0, [.int tkr, .int tkd, .int tkp, .int tkc]))] sz) := by
  refine Met.ofW (cc := cX4_kindNumber) (maxL := 1) (ret := (some .int)) (by decide) rfl ?_
  intro p e s m args below meth c s₁ B hml hv
  obtain ⟨hargs, hsz, hP, hK, hD0, hN⟩ := hv
  have hx := B.exec
  have hb := B.bytes
  have hr := B.returns
  have hts := atoms_spec (ws := wsX4_kindNumber) B.pre
  have hown : s.vm.findClass RX4 = some m.cls := findClass_of_methodNamed B.named
  have hlocks := B.notSynchronized
  subst hsz
  have hD := hD0.self (sz := s.heap.size)
  generalize hAe : va_A [(a_tk, .inr (0, [.int tkr, .int tkd, .int tkp, .int tkc]))] s.heap.size = A at hD ⊢
  have hA : ∀ q : Nat, s.heap.size ≤ q → A q := fun q h => by rw [← hAe]; exact Or.inr h
  have hS : va_S A s.heap s.heap [] := va_S.rf
  obtain ⟨Q, hQ⟩ : ∃ Q : State → Prop, Q = MQ below (va_Qi (fun (r : Int32) (u : Unit) => K r) (poW (dC, dI) A (fun (u : Unit) => [(a_tk, .inr (0, [.int tkr, .int tkd, .int tkp, .int tkc]))])) A) args s 0 0 A := ⟨_, rfl⟩
  rw [← hQ]
  have hP : va_P (dC, dI) vwCl [(a_tk, .inr (0, [.int tkr, .int tkd, .int tkp, .int tkc]))] s.heap := hP
  refine en_ok hargs (Nat.le_of_ble_eq_true rfl) (fun ls hl => ?_)
  have hl : lv_has ls 1 [(0, .ref a_tk)] := hl
  have h := hg
  unfold g_X4_kindNumber_k2 at h
  refine lv_iconst (v := (1 : Int32)) hx hb dX4_kindNumber_0 (by decide +kernel) ?_
  rw [hQ]
  exact rt_i () hx hb hr hlocks h hP hD hS dX4_kindNumber_1

/-- RentOrBuy$Shelf.firstOrder -/
def rmX5_firstOrder : Room := { frames := 0, cells := 0, slots := 0, locals := 0 }
set_option maxHeartbeats 4000000 in
set_option maxRecDepth 100000 in
theorem c_X5_firstOrder (l : Launch) (dC : Nat → ClassId) (dI : Nat → Nat → Nat) (kA : ClassId) (a_sh a_ak a_os a_le : Nat) (sz : Nat) (thg : Int32) (req : Int32) (ocn : Int32) (K : Int32 → Prop) (hg : g_X5_firstOrder thg req ocn K) : Met l yX5_firstOrder wsX5_firstOrder rmX5_firstOrder (va_Pc [.ref a_sh] (prW (dC, dI) kA sz [(a_sh, .inr (5, [.int thg, .int req, .ref a_ak, .int ocn, .ref a_os, .ref a_le]))])) (va_Qi (fun (r : Int32) (u : Unit) => K r) (poW (dC, dI) (va_A [(a_sh, .inr (5, [.int thg, .int req, .ref a_ak, .int ocn, .ref a_os, .ref a_le]))] sz) (fun (u : Unit) => [(a_sh, .inr (5, [.int thg, .int req, .ref a_ak, .int ocn, .ref a_os, .ref a_le]))])) (va_A [(a_sh, .inr (5, [.int thg, .int req, .ref a_ak, .int ocn, .ref a_os, .ref a_le]))] sz)) 0 0 (va_A [(a_sh, .inr (5, [.int thg, .int req, .ref a_ak, .int ocn, .ref a_os, .ref a_le]))] sz) := by
  refine Met.ofW (cc := cX5_firstOrder) (maxL := 3) (ret := (some .int)) (by decide) rfl ?_
  intro p e s m args below meth c s₁ B hml hv
  obtain ⟨hargs, hsz, hP, hK, hD0, hN⟩ := hv
  have hx := B.exec
  have hb := B.bytes
  have hr := B.returns
  have hts := atoms_spec (ws := wsX5_firstOrder) B.pre
  have hown : s.vm.findClass RX5 = some m.cls := findClass_of_methodNamed B.named
  have hlocks := B.notSynchronized
  subst hsz
  have hD := hD0.self (sz := s.heap.size)
  generalize hAe : va_A [(a_sh, .inr (5, [.int thg, .int req, .ref a_ak, .int ocn, .ref a_os, .ref a_le]))] s.heap.size = A at hD ⊢
  have hA : ∀ q : Nat, s.heap.size ≤ q → A q := fun q h => by rw [← hAe]; exact Or.inr h
  have hS : va_S A s.heap s.heap [] := va_S.rf
  obtain ⟨Q, hQ⟩ : ∃ Q : State → Prop, Q = MQ below (va_Qi (fun (r : Int32) (u : Unit) => K r) (poW (dC, dI) A (fun (u : Unit) => [(a_sh, .inr (5, [.int thg, .int req, .ref a_ak, .int ocn, .ref a_os, .ref a_le]))])) A) args s 0 0 A := ⟨_, rfl⟩
  rw [← hQ]
  have hP : va_P (dC, dI) vwCl [(a_sh, .inr (5, [.int thg, .int req, .ref a_ak, .int ocn, .ref a_os, .ref a_le]))] s.heap := hP
  refine en_ok hargs (Nat.le_of_ble_eq_true rfl) (fun ls hl => ?_)
  have hl : lv_has ls 3 [(0, .ref a_sh)] := hl
  have h := hg
  unfold g_X5_firstOrder at h
  refine lv_iconst (v := (0 : Int32)) hx hb dX5_firstOrder_0 (by decide +kernel) ?_
  refine lv_istore_n (lv' := [(1, .int (0 : Int32)), (0, .ref a_sh)]) hx hb dX5_firstOrder_1 rfl hl (by decide) rfl (fun ls hl => ?_)
  refine lv_iconst (v := (0 : Int32)) hx hb dX5_firstOrder_2 (by decide +kernel) ?_
  refine lv_istore_n (lv' := [(2, .int (0 : Int32)), (1, .int (0 : Int32)), (0, .ref a_sh)]) hx hb dX5_firstOrder_3 rfl hl (by decide) rfl (fun ls hl => ?_)
  obtain ⟨J4, ⟨n4, h⟩, hz4, hs4⟩ := h
  have hL4 : ∀ (n4 : Nat) (v1_4 : Int32) (v2_4 : Int32), J4 n4 v1_4 v2_4 → ∀ (H : Heap) (locs : List Loc) (ls : Array Slot), va_P (dC, dI) vwCl [(a_sh, .inr (5, [.int thg, .int req, .ref a_ak, .int ocn, .ref a_os, .ref a_le]))] H → va_D A [(a_sh, .inr (5, [.int thg, .int req, .ref a_ak, .int ocn, .ref a_os, .ref a_le]))] → va_S A s.heap H locs → lv_has ls 3 [(0, .ref a_sh), (1, .int v1_4), (2, .int v2_4)] → W p l e (headSpec wsX5_firstOrder rmX5_firstOrder).room s m args below meth c H locs 0 0 Q (F0 m 4 ls []) := by
    intro n4
    induction n4 with
    | zero => intro v1_4 v2_4 h; exact absurd h (hz4 v1_4 v2_4)
    | succ n4 ih4 =>
      intro v1_4 v2_4 h H locs ls hP hD hS hl
      replace h := hs4 n4 v1_4 v2_4 h
      refine lv_iload_n hx hb dX5_firstOrder_4 rfl (lv_at hl 2 rfl) ?_
      refine lv_aload_n hx hb dX5_firstOrder_5 rfl (lv_at hl 0 rfl) ?_
      refine va_get (D := (dC, dI)) (ci := 5) (v := .int thg) (C := RX5) (T := TX5) (N := 6) hx hb hts (fun _ h => List.mem_cons_of_mem _ (List.mem_append_right _ h)) hown hK hP 0 rfl rfl 0 (by decide) (hts (.fieldLink RX5 21 "RentOrBuy$Shelf" "things" "I") (List.mem_cons_of_mem _ (List.mem_append_left _ (List.mem_of_getElem? (i := 0) rfl)))) (fun _ h9 => h9) rfl dX5_firstOrder_6 ?_
      refine lv_icmp_ge (tgt := 26) hx hb dX5_firstOrder_9 (by decide) (fun c9 => ?_) (fun c9 => ?_)
      · replace h := h.1 c9
        refine lv_iload_n hx hb dX5_firstOrder_26 rfl (lv_at hl 1 rfl) ?_
        rw [hQ]
        exact rt_i () hx hb hr hlocks h hP hD hS dX5_firstOrder_27
      · replace h := h.2 c9
        refine lv_iload_n hx hb dX5_firstOrder_12 rfl (lv_at hl 1 rfl) ?_
        refine lv_iload_n hx hb dX5_firstOrder_13 rfl (lv_at hl 2 rfl) ?_
        refine lv_iconst (v := (2 : Int32)) hx hb dX5_firstOrder_14 (by decide +kernel) ?_
        refine lv_iload_n hx hb dX5_firstOrder_15 rfl (lv_at hl 2 rfl) ?_
        refine lv_imul hx hb dX5_firstOrder_16 ?_
        refine lv_ishl hx hb dX5_firstOrder_17 ?_
        refine lv_ior hx hb dX5_firstOrder_18 ?_
        refine lv_istore_n (lv' := [(1, .int (v1_4 ||| (v2_4 <<< (((2 : Int32) * v2_4) &&& (31 : Int32))))), (0, .ref a_sh), (2, .int v2_4)]) hx hb dX5_firstOrder_19 rfl hl (by decide) rfl (fun ls hl => ?_)
        refine lv_iinc (v := (v2_4 + (1 : Int32))) (lv' := [(2, .int (v2_4 + (1 : Int32))), (1, .int (v1_4 ||| (v2_4 <<< (((2 : Int32) * v2_4) &&& (31 : Int32))))), (0, .ref a_sh)]) hx hb dX5_firstOrder_20 hl (k := 2) rfl (by rfl) (by decide) rfl (fun ls hl => ?_)
        refine lv_goto (tgt := 4) hx hb dX5_firstOrder_23 (by decide) ?_
        exact ih4 (v1_4 ||| (v2_4 <<< (((2 : Int32) * v2_4) &&& (31 : Int32)))) (v2_4 + (1 : Int32)) h _ _ _ hP hD hS (lv_sub hl [2, 1, 0] rfl)
  exact hL4 n4 (0 : Int32) (0 : Int32) h _ _ _ hP hD hS (lv_sub hl [2, 1, 0] rfl)

/-- RentOrBuy$Shelf.thingAt -/
def rmX5_thingAt : Room := { frames := 0, cells := 0, slots := 0, locals := 0 }
set_option maxHeartbeats 4000000 in
set_option maxRecDepth 100000 in
theorem c_X5_thingAt (l : Launch) (dC : Nat → ClassId) (dI : Nat → Nat → Nat) (kA : ClassId) (sz : Nat) (p1 : Int32) (p2 : Int32) (K : Int32 → Prop) (hg : g_X5_thingAt p1 p2 K) : Met l yX5_thingAt wsX5_thingAt rmX5_thingAt (va_Pc [.int p1, .int p2] (prW (dC, dI) kA sz [])) (va_Qi (fun (r : Int32) (u : Unit) => K r) (poW (dC, dI) (va_A [] sz) (fun (u : Unit) => [])) (va_A [] sz)) 0 0 (va_A [] sz) := by
  refine Met.ofW (cc := cX5_thingAt) (maxL := 2) (ret := (some .int)) (by decide) rfl ?_
  intro p e s m args below meth c s₁ B hml hv
  obtain ⟨hargs, hsz, hP, hK, hD0, hN⟩ := hv
  have hx := B.exec
  have hb := B.bytes
  have hr := B.returns
  have hts := atoms_spec (ws := wsX5_thingAt) B.pre
  have hown : s.vm.findClass RX5 = some m.cls := findClass_of_methodNamed B.named
  have hlocks := B.notSynchronized
  subst hsz
  have hD := hD0.self (sz := s.heap.size)
  generalize hAe : va_A [] s.heap.size = A at hD ⊢
  have hA : ∀ q : Nat, s.heap.size ≤ q → A q := fun q h => by rw [← hAe]; exact Or.inr h
  have hS : va_S A s.heap s.heap [] := va_S.rf
  obtain ⟨Q, hQ⟩ : ∃ Q : State → Prop, Q = MQ below (va_Qi (fun (r : Int32) (u : Unit) => K r) (poW (dC, dI) A (fun (u : Unit) => [])) A) args s 0 0 A := ⟨_, rfl⟩
  rw [← hQ]
  have hP : va_P (dC, dI) vwCl [] s.heap := hP
  refine en_ok hargs (Nat.le_of_ble_eq_true rfl) (fun ls hl => ?_)
  have hl : lv_has ls 2 [(0, .int p1), (1, .int p2)] := hl
  have h := hg
  unfold g_X5_thingAt at h
  refine lv_iload_n hx hb dX5_thingAt_0 rfl (lv_at hl 0 rfl) ?_
  refine lv_iconst (v := (2 : Int32)) hx hb dX5_thingAt_1 (by decide +kernel) ?_
  refine lv_iload_n hx hb dX5_thingAt_2 rfl (lv_at hl 1 rfl) ?_
  refine lv_imul hx hb dX5_thingAt_3 ?_
  refine lv_ishr hx hb dX5_thingAt_4 ?_
  refine lv_iconst (v := (3 : Int32)) hx hb dX5_thingAt_5 (by decide +kernel) ?_
  refine lv_iand hx hb dX5_thingAt_6 ?_
  rw [hQ]
  exact rt_i () hx hb hr hlocks h hP hD hS dX5_thingAt_7

/-- RentOrBuy$Shelf.exchanged -/
def rmX5_exchanged : Room := { frames := 1, cells := 0, slots := 0, locals := 21 }
set_option maxHeartbeats 4000000 in
set_option maxRecDepth 100000 in
theorem c_X5_exchanged (l : Launch) (dC : Nat → ClassId) (dI : Nat → Nat → Nat) (kA : ClassId) (sz : Nat) (p1 : Int32) (p2 : Int32) (K : Int32 → Prop) (hg : g_X5_exchanged p1 p2 K) : Met l yX5_exchanged wsX5_exchanged rmX5_exchanged (va_Pc [.int p1, .int p2] (prW (dC, dI) kA sz [])) (va_Qi (fun (r : Int32) (u : Unit) => K r) (poW (dC, dI) (va_A [] sz) (fun (u : Unit) => [])) (va_A [] sz)) 0 0 (va_A [] sz) := by
  refine Met.ofW (cc := cX5_exchanged) (maxL := 3) (ret := (some .int)) (by decide) rfl ?_
  intro p e s m args below meth c s₁ B hml hv
  obtain ⟨hargs, hsz, hP, hK, hD0, hN⟩ := hv
  have hx := B.exec
  have hb := B.bytes
  have hr := B.returns
  have hts := atoms_spec (ws := wsX5_exchanged) B.pre
  have hown : s.vm.findClass RX5 = some m.cls := findClass_of_methodNamed B.named
  have hlocks := B.notSynchronized
  subst hsz
  have hD := hD0.self (sz := s.heap.size)
  generalize hAe : va_A [] s.heap.size = A at hD ⊢
  have hA : ∀ q : Nat, s.heap.size ≤ q → A q := fun q h => by rw [← hAe]; exact Or.inr h
  have hS : va_S A s.heap s.heap [] := va_S.rf
  obtain ⟨Q, hQ⟩ : ∃ Q : State → Prop, Q = MQ below (va_Qi (fun (r : Int32) (u : Unit) => K r) (poW (dC, dI) A (fun (u : Unit) => [])) A) args s 0 0 A := ⟨_, rfl⟩
  rw [← hQ]
  have hP : va_P (dC, dI) vwCl [] s.heap := hP
  refine en_ok hargs (Nat.le_of_ble_eq_true rfl) (fun ls hl => ?_)
  have hl : lv_has ls 3 [(0, .int p1), (1, .int p2)] := hl
  have h := hg
  unfold g_X5_exchanged at h
  refine lv_iload_n hx hb dX5_exchanged_0 rfl (lv_at hl 0 rfl) ?_
  refine lv_iload_n hx hb dX5_exchanged_1 rfl (lv_at hl 1 rfl) ?_
  have hPc := hP.sub (ws' := []) [] rfl
  have hDc := hD.sub (ws' := []) [] (by decide) rfl
  refine fr_i (wr := []) (WN := fun (u2 : Unit) => []) (va_runS (As := [.int p1, .int p2]) (rest := []) ⟨hx, hb, hml, hown, hts⟩ (c_X5_thingAt l dC dI kA s.heap.size p1 p2 _ h) (va_cwS 2 hts gX5_exchanged_X5_thingAt rfl rfl rfl (by decide +kernel) ⟨Nat.le_of_ble_eq_true rfl, Nat.le_of_ble_eq_true rfl⟩) (prW.preS hPc hDc hK hN) rfl rfl hl.1 rfl (lv_room (Nat.le_of_ble_eq_true rfl)) dX5_exchanged_2 ⟨Nat.le_of_ble_eq_true rfl, Nat.le_of_ble_eq_true rfl⟩) hP hD hS hA [] [] rfl rfl (by decide) (by decide) [] (by decide) (fun _ => rfl) (fun r2 u2 H locs h hP hD hS => ?_)
  have hP : va_P (dC, dI) vwCl [] H := hP
  have hD : va_D A [] := hD
  refine lv_iload_n hx hb dX5_exchanged_5 rfl (lv_at hl 0 rfl) ?_
  refine lv_iload_n hx hb dX5_exchanged_6 rfl (lv_at hl 1 rfl) ?_
  refine lv_iconst (v := (1 : Int32)) hx hb dX5_exchanged_7 (by decide +kernel) ?_
  refine lv_iadd hx hb dX5_exchanged_8 ?_
  have hPc := hP.sub (ws' := []) [] rfl
  have hDc := hD.sub (ws' := []) [] (by decide) rfl
  refine fr_i (wr := []) (WN := fun (u9 : Unit) => []) (va_runS (As := [.int p1, .int (p2 + (1 : Int32))]) (rest := [.int r2]) ⟨hx, hb, hml, hown, hts⟩ (c_X5_thingAt l dC dI kA H.size p1 (p2 + (1 : Int32)) _ h) (va_cwS 2 hts gX5_exchanged_X5_thingAt rfl rfl rfl (by decide +kernel) ⟨Nat.le_of_ble_eq_true rfl, Nat.le_of_ble_eq_true rfl⟩) (prW.preS hPc hDc hK hN) rfl rfl hl.1 rfl (lv_room (Nat.le_of_ble_eq_true rfl)) dX5_exchanged_9 ⟨Nat.le_of_ble_eq_true rfl, Nat.le_of_ble_eq_true rfl⟩) hP hD hS hA [] [] rfl rfl (by decide) (by decide) [] (by decide) (fun _ => rfl) (fun r9 u9 H locs h hP hD hS => ?_)
  have hP : va_P (dC, dI) vwCl [] H := hP
  have hD : va_D A [] := hD
  refine lv_ixor hx hb dX5_exchanged_12 ?_
  refine lv_istore_n (lv' := [(2, .int (r2 ^^^ r9)), (0, .int p1), (1, .int p2)]) hx hb dX5_exchanged_13 rfl hl (by decide) rfl (fun ls hl => ?_)
  refine lv_iload_n hx hb dX5_exchanged_14 rfl (lv_at hl 1 rfl) ?_
  refine lv_iload_n hx hb dX5_exchanged_15 rfl (lv_at hl 0 rfl) ?_
  refine lv_iconst (v := (2 : Int32)) hx hb dX5_exchanged_16 (by decide +kernel) ?_
  refine lv_iload_n hx hb dX5_exchanged_17 rfl (lv_at hl 2 rfl) ?_
  refine lv_imul hx hb dX5_exchanged_18 ?_
  refine lv_ishl hx hb dX5_exchanged_19 ?_
  refine lv_ixor hx hb dX5_exchanged_20 ?_
  refine lv_iload_n hx hb dX5_exchanged_21 rfl (lv_at hl 0 rfl) ?_
  refine lv_iconst (v := (2 : Int32)) hx hb dX5_exchanged_22 (by decide +kernel) ?_
  refine lv_iload_n hx hb dX5_exchanged_23 rfl (lv_at hl 2 rfl) ?_
  refine lv_iconst (v := (1 : Int32)) hx hb dX5_exchanged_24 (by decide +kernel) ?_
  refine lv_iadd hx hb dX5_exchanged_25 ?_
  refine lv_imul hx hb dX5_exchanged_26 ?_
  refine lv_ishl hx hb dX5_exchanged_27 ?_
  refine lv_ixor hx hb dX5_exchanged_28 ?_
  rw [hQ]
  exact rt_i () hx hb hr hlocks h hP hD hS dX5_exchanged_29

/-- RentOrBuy$Shelf.exchangeIn -/
def rmX5_exchangeIn : Room := { frames := 2, cells := 0, slots := 0, locals := 43 }
set_option maxHeartbeats 4000000 in
set_option maxRecDepth 100000 in
theorem c_X5_exchangeIn (l : Launch) (dC : Nat → ClassId) (dI : Nat → Nat → Nat) (kA : ClassId) (a_sh a_le a_ak a_os : Nat) (sz : Nat) (thg : Int32) (req : Int32) (ocn : Int32) (leF : Nat → Int32) (p1 : Int32) (K : Int32 → (Nat → Int32) → Prop) (hg : g_X5_exchangeIn thg req ocn leF p1 K) : Met l yX5_exchangeIn wsX5_exchangeIn rmX5_exchangeIn (va_Pc [.ref a_sh, .int p1] (prW (dC, dI) kA sz [(a_sh, .inr (5, [.int thg, .int req, .ref a_ak, .int ocn, .ref a_os, .ref a_le])), (a_le, .inl (kA, 256, .inl leF))])) (va_Qi (fun (r : Int32) (u : (Nat → Int32)) => K r u) (poW (dC, dI) (va_A [(a_sh, .inr (5, [.int thg, .int req, .ref a_ak, .int ocn, .ref a_os, .ref a_le])), (a_le, .inl (kA, 256, .inl leF))] sz) (fun (u : (Nat → Int32)) => [(a_sh, .inr (5, [.int thg, .int req, .ref a_ak, .int ocn, .ref a_os, .ref a_le])), (a_le, .inl (kA, 256, .inl u))])) (va_A [(a_sh, .inr (5, [.int thg, .int req, .ref a_ak, .int ocn, .ref a_os, .ref a_le])), (a_le, .inl (kA, 256, .inl leF))] sz)) 0 0 (va_A [(a_sh, .inr (5, [.int thg, .int req, .ref a_ak, .int ocn, .ref a_os, .ref a_le])), (a_le, .inl (kA, 256, .inl leF))] sz) := by
  refine Met.ofW (cc := cX5_exchangeIn) (maxL := 5) (ret := (some .boolean)) (by decide) rfl ?_
  intro p e s m args below meth c s₁ B hml hv
  obtain ⟨hargs, hsz, hP, hK, hD0, hN⟩ := hv
  have hx := B.exec
  have hb := B.bytes
  have hr := B.returns
  have hts := atoms_spec (ws := wsX5_exchangeIn) B.pre
  have hown : s.vm.findClass RX5 = some m.cls := findClass_of_methodNamed B.named
  have hlocks := B.notSynchronized
  subst hsz
  have hD := hD0.self (sz := s.heap.size)
  generalize hAe : va_A [(a_sh, .inr (5, [.int thg, .int req, .ref a_ak, .int ocn, .ref a_os, .ref a_le])), (a_le, .inl (kA, 256, .inl leF))] s.heap.size = A at hD ⊢
  have hA : ∀ q : Nat, s.heap.size ≤ q → A q := fun q h => by rw [← hAe]; exact Or.inr h
  have hS : va_S A s.heap s.heap [] := va_S.rf
  obtain ⟨Q, hQ⟩ : ∃ Q : State → Prop, Q = MQ below (va_Qi (fun (r : Int32) (u : (Nat → Int32)) => K r u) (poW (dC, dI) A (fun (u : (Nat → Int32)) => [(a_sh, .inr (5, [.int thg, .int req, .ref a_ak, .int ocn, .ref a_os, .ref a_le])), (a_le, .inl (kA, 256, .inl u))])) A) args s 0 0 A := ⟨_, rfl⟩
  rw [← hQ]
  have hP : va_P (dC, dI) vwCl [(a_sh, .inr (5, [.int thg, .int req, .ref a_ak, .int ocn, .ref a_os, .ref a_le])), (a_le, .inl (kA, 256, .inl leF))] s.heap := hP
  refine en_ok hargs (Nat.le_of_ble_eq_true rfl) (fun ls hl => ?_)
  have hl : lv_has ls 5 [(0, .ref a_sh), (1, .int p1)] := hl
  have h := hg
  unfold g_X5_exchangeIn at h
  refine lv_iconst (v := (0 : Int32)) hx hb dX5_exchangeIn_0 (by decide +kernel) ?_
  refine lv_istore_n (lv' := [(2, .int (0 : Int32)), (0, .ref a_sh), (1, .int p1)]) hx hb dX5_exchangeIn_1 rfl hl (by decide) rfl (fun ls hl => ?_)
  refine lv_iconst (v := (0 : Int32)) hx hb dX5_exchangeIn_2 (by decide +kernel) ?_
  refine lv_istore_n (lv' := [(3, .int (0 : Int32)), (2, .int (0 : Int32)), (0, .ref a_sh), (1, .int p1)]) hx hb dX5_exchangeIn_3 rfl hl (by decide) rfl (fun ls hl => ?_)
  obtain ⟨J4, ⟨n4, h⟩, hz4, hs4⟩ := h
  have hL4 : ∀ (n4 : Nat) (v2_4 : Int32) (v3_4 : Int32) (leF_4 : Nat → Int32), J4 n4 v2_4 v3_4 leF_4 → ∀ (H : Heap) (locs : List Loc) (ls : Array Slot), va_P (dC, dI) vwCl [(a_sh, .inr (5, [.int thg, .int req, .ref a_ak, .int ocn, .ref a_os, .ref a_le])), (a_le, .inl (kA, 256, .inl leF_4))] H → va_D A [(a_sh, .inr (5, [.int thg, .int req, .ref a_ak, .int ocn, .ref a_os, .ref a_le])), (a_le, .inl (kA, 256, .inl leF_4))] → va_S A s.heap H locs → lv_has ls 5 [(0, .ref a_sh), (1, .int p1), (2, .int v2_4), (3, .int v3_4)] → W p l e (headSpec wsX5_exchangeIn rmX5_exchangeIn).room s m args below meth c H locs 0 0 Q (F0 m 4 ls []) := by
    intro n4
    induction n4 with
    | zero => intro v2_4 v3_4 leF_4 h; exact absurd h (hz4 v2_4 v3_4 leF_4)
    | succ n4 ih4 =>
      intro v2_4 v3_4 leF_4 h H locs ls hP hD hS hl
      replace h := hs4 n4 v2_4 v3_4 leF_4 h
      refine lv_iload_n hx hb dX5_exchangeIn_4 rfl (lv_at hl 3 rfl) ?_
      refine lv_iconst (v := (1 : Int32)) hx hb dX5_exchangeIn_5 (by decide +kernel) ?_
      refine lv_iadd hx hb dX5_exchangeIn_6 ?_
      refine lv_aload_n hx hb dX5_exchangeIn_7 rfl (lv_at hl 0 rfl) ?_
      refine va_get (D := (dC, dI)) (ci := 5) (v := .int thg) (C := RX5) (T := TX5) (N := 6) hx hb hts (fun _ h => List.mem_cons_of_mem _ (List.mem_append_right _ h)) hown hK hP 0 rfl rfl 0 (by decide) (hts (.fieldLink RX5 21 "RentOrBuy$Shelf" "things" "I") (List.mem_cons_of_mem _ (List.mem_append_left _ (List.mem_of_getElem? (i := 0) rfl)))) (fun _ h9 => h9) rfl dX5_exchangeIn_8 ?_
      refine lv_icmp_ge (tgt := 62) hx hb dX5_exchangeIn_11 (by decide) (fun c11 => ?_) (fun c11 => ?_)
      · replace h := h.1 c11
        refine lv_iload_n hx hb dX5_exchangeIn_62 rfl (lv_at hl 2 rfl) ?_
        obtain ⟨hzz, h⟩ := h
        rw [hQ]
        exact rt_z (leF_4) hx hb hr hlocks hzz h hP hD hS dX5_exchangeIn_63
      · replace h := h.2 c11
        refine lv_iload_n hx hb dX5_exchangeIn_14 rfl (lv_at hl 1 rfl) ?_
        refine lv_iload_n hx hb dX5_exchangeIn_15 rfl (lv_at hl 3 rfl) ?_
        have hPc := hP.sub (ws' := []) [] rfl
        have hDc := hD.sub (ws' := []) [] (by decide) rfl
        refine fr_i (wr := [(a_sh, .inr (5, [.int thg, .int req, .ref a_ak, .int ocn, .ref a_os, .ref a_le])), (a_le, .inl (kA, 256, .inl leF_4))]) (WN := fun (u16 : Unit) => [(a_sh, .inr (5, [.int thg, .int req, .ref a_ak, .int ocn, .ref a_os, .ref a_le])), (a_le, .inl (kA, 256, .inl leF_4))]) (va_runS (As := [.int p1, .int v3_4]) (rest := []) ⟨hx, hb, hml, hown, hts⟩ (c_X5_exchanged l dC dI kA H.size p1 v3_4 _ h) (va_cwS 2 hts gX5_exchangeIn_X5_exchanged rfl rfl rfl (by decide +kernel) ⟨Nat.le_of_ble_eq_true rfl, Nat.le_of_ble_eq_true rfl⟩) (prW.preS hPc hDc hK hN) rfl rfl hl.1 rfl (lv_room (Nat.le_of_ble_eq_true rfl)) dX5_exchangeIn_16 ⟨Nat.le_of_ble_eq_true rfl, Nat.le_of_ble_eq_true rfl⟩) hP hD hS hA [] [0, 1] rfl rfl (by decide) (by decide) [0, 1] (by decide) (fun _ => rfl) (fun r16 u16 H locs h hP hD hS => ?_)
        have hP : va_P (dC, dI) vwCl [(a_sh, .inr (5, [.int thg, .int req, .ref a_ak, .int ocn, .ref a_os, .ref a_le])), (a_le, .inl (kA, 256, .inl leF_4))] H := hP
        have hD : va_D A [(a_sh, .inr (5, [.int thg, .int req, .ref a_ak, .int ocn, .ref a_os, .ref a_le])), (a_le, .inl (kA, 256, .inl leF_4))] := hD
        refine lv_istore (lv' := [(4, .int r16), (0, .ref a_sh), (1, .int p1), (2, .int v2_4), (3, .int v3_4)]) hx hb dX5_exchangeIn_19 hl (by decide) rfl (fun ls hl => ?_)
        refine lv_aload_n hx hb dX5_exchangeIn_21 rfl (lv_at hl 1 rfl) ?_
        refine va_get (D := (dC, dI)) (ci := 5) (v := .ref a_le) (C := RX5) (T := TX5) (N := 6) hx hb hts (fun _ h => List.mem_cons_of_mem _ (List.mem_append_right _ h)) hown hK hP 0 rfl rfl 5 (by decide) (hts (.fieldLink RX5 18 "RentOrBuy$Shelf" "least" "[I") (List.mem_cons_of_mem _ (List.mem_append_left _ (List.mem_of_getElem? (i := 1) rfl)))) (fun _ h9 => h9) rfl dX5_exchangeIn_22 ?_
        refine lv_iload_n hx hb dX5_exchangeIn_25 rfl (lv_at hl 2 rfl) ?_
        obtain ⟨hi26, h⟩ := h
        refine va_iald hx hb hK hP 1 0 rfl rfl hi26 dX5_exchangeIn_26 ?_
        refine lv_iconst (v := (1 : Int32)) hx hb dX5_exchangeIn_27 (by decide +kernel) ?_
        refine lv_iadd hx hb dX5_exchangeIn_28 ?_
        refine lv_aload_n hx hb dX5_exchangeIn_29 rfl (lv_at hl 1 rfl) ?_
        refine va_get (D := (dC, dI)) (ci := 5) (v := .ref a_le) (C := RX5) (T := TX5) (N := 6) hx hb hts (fun _ h => List.mem_cons_of_mem _ (List.mem_append_right _ h)) hown hK hP 0 rfl rfl 5 (by decide) (hts (.fieldLink RX5 18 "RentOrBuy$Shelf" "least" "[I") (List.mem_cons_of_mem _ (List.mem_append_left _ (List.mem_of_getElem? (i := 1) rfl)))) (fun _ h9 => h9) rfl dX5_exchangeIn_30 ?_
        refine lv_iload hx hb dX5_exchangeIn_33 (lv_at hl 0 rfl) ?_
        obtain ⟨hi35, h⟩ := h
        refine va_iald hx hb hK hP 1 0 rfl rfl hi35 dX5_exchangeIn_35 ?_
        obtain ⟨J56, hR56, h⟩ := h
        have hJ56 : ∀ (v2_56 : Int32) (leF_56 : Nat → Int32), J56 v2_56 leF_56 → ∀ (H : Heap) (locs : List Loc) (ls : Array Slot), va_P (dC, dI) vwCl [(a_sh, .inr (5, [.int thg, .int req, .ref a_ak, .int ocn, .ref a_os, .ref a_le])), (a_le, .inl (kA, 256, .inl leF_56))] H → va_D A [(a_sh, .inr (5, [.int thg, .int req, .ref a_ak, .int ocn, .ref a_os, .ref a_le])), (a_le, .inl (kA, 256, .inl leF_56))] → va_S A s.heap H locs → lv_has ls 5 [(0, .ref a_sh), (1, .int p1), (2, .int v2_56), (3, .int v3_4)] → W p l e (headSpec wsX5_exchangeIn rmX5_exchangeIn).room s m args below meth c H locs 0 0 Q (F0 m 56 ls []) := by
          intro v2_56 leF_56 h H locs ls hP hD hS hl
          replace h := hR56 v2_56 leF_56 h
          refine lv_iinc (v := (v3_4 + (1 : Int32))) (lv' := [(3, .int (v3_4 + (1 : Int32))), (0, .ref a_sh), (1, .int p1), (2, .int v2_56)]) hx hb dX5_exchangeIn_56 hl (k := 3) rfl (by rfl) (by decide) rfl (fun ls hl => ?_)
          refine lv_goto (tgt := 4) hx hb dX5_exchangeIn_59 (by decide) ?_
          exact ih4 v2_56 (v3_4 + (1 : Int32)) leF_56 h _ _ _ hP hD hS (lv_sub hl [1, 2, 3, 0] rfl)
        refine lv_icmp_ge (tgt := 56) hx hb dX5_exchangeIn_36 (by decide) (fun c36 => ?_) (fun c36 => ?_)
        · replace h := h.1 c36
          exact hJ56 v2_4 leF_4 h _ _ _ hP hD hS (lv_sub hl [1, 2, 3, 4] rfl)
        · replace h := h.2 c36
          refine lv_aload_n hx hb dX5_exchangeIn_39 rfl (lv_at hl 1 rfl) ?_
          refine va_get (D := (dC, dI)) (ci := 5) (v := .ref a_le) (C := RX5) (T := TX5) (N := 6) hx hb hts (fun _ h => List.mem_cons_of_mem _ (List.mem_append_right _ h)) hown hK hP 0 rfl rfl 5 (by decide) (hts (.fieldLink RX5 18 "RentOrBuy$Shelf" "least" "[I") (List.mem_cons_of_mem _ (List.mem_append_left _ (List.mem_of_getElem? (i := 1) rfl)))) (fun _ h9 => h9) rfl dX5_exchangeIn_40 ?_
          refine lv_iload hx hb dX5_exchangeIn_43 (lv_at hl 0 rfl) ?_
          refine lv_aload_n hx hb dX5_exchangeIn_45 rfl (lv_at hl 1 rfl) ?_
          refine va_get (D := (dC, dI)) (ci := 5) (v := .ref a_le) (C := RX5) (T := TX5) (N := 6) hx hb hts (fun _ h => List.mem_cons_of_mem _ (List.mem_append_right _ h)) hown hK hP 0 rfl rfl 5 (by decide) (hts (.fieldLink RX5 18 "RentOrBuy$Shelf" "least" "[I") (List.mem_cons_of_mem _ (List.mem_append_left _ (List.mem_of_getElem? (i := 1) rfl)))) (fun _ h9 => h9) rfl dX5_exchangeIn_46 ?_
          refine lv_iload_n hx hb dX5_exchangeIn_49 rfl (lv_at hl 2 rfl) ?_
          obtain ⟨hi50, h⟩ := h
          refine va_iald hx hb hK hP 1 0 rfl rfl hi50 dX5_exchangeIn_50 ?_
          refine lv_iconst (v := (1 : Int32)) hx hb dX5_exchangeIn_51 (by decide +kernel) ?_
          refine lv_iadd hx hb dX5_exchangeIn_52 ?_
          obtain ⟨hi53, h⟩ := h
          refine va_iast hx hb hK hP hD hS 1 0 rfl rfl hi53 dX5_exchangeIn_53 (fun H locs hP hD hS => ?_)
          have hP : va_P (dC, dI) vwCl [(a_sh, .inr (5, [.int thg, .int req, .ref a_ak, .int ocn, .ref a_os, .ref a_le])), (a_le, .inl (kA, 256, .inl (upd leF_4 r16.toNatClampNeg ((leF_4 p1.toNatClampNeg) + (1 : Int32)))))] H := hP
          have hD : va_D A [(a_sh, .inr (5, [.int thg, .int req, .ref a_ak, .int ocn, .ref a_os, .ref a_le])), (a_le, .inl (kA, 256, .inl (upd leF_4 r16.toNatClampNeg ((leF_4 p1.toNatClampNeg) + (1 : Int32)))))] := hD
          refine lv_iconst (v := (1 : Int32)) hx hb dX5_exchangeIn_54 (by decide +kernel) ?_
          refine lv_istore_n (lv' := [(2, .int (1 : Int32)), (4, .int r16), (0, .ref a_sh), (1, .int p1), (3, .int v3_4)]) hx hb dX5_exchangeIn_55 rfl hl (by decide) rfl (fun ls hl => ?_)
          exact hJ56 (1 : Int32) (upd leF_4 r16.toNatClampNeg ((leF_4 p1.toNatClampNeg) + (1 : Int32))) h _ _ _ hP hD hS (lv_sub hl [2, 3, 0, 4] rfl)
  exact hL4 n4 (0 : Int32) (0 : Int32) leF h _ _ _ hP hD hS (lv_sub hl [2, 3, 1, 0] rfl)

/-- RentOrBuy$Shelf.exchangeNeighbours -/
def rmX5_exchangeNeighbours : Room := { frames := 3, cells := 0, slots := 0, locals := 67 }
set_option maxHeartbeats 4000000 in
set_option maxRecDepth 100000 in
theorem c_X5_exchangeNeighbours (l : Launch) (dC : Nat → ClassId) (dI : Nat → Nat → Nat) (kA : ClassId) (a_sh a_os a_le a_ak : Nat) (sz : Nat) (thg : Int32) (req : Int32) (ocn : Int32) (osF : Nat → Int32) (leF : Nat → Int32) (K : (Nat → Int32) → Prop) (hg : g_X5_exchangeNeighbours thg req ocn osF leF K) : Met l yX5_exchangeNeighbours wsX5_exchangeNeighbours rmX5_exchangeNeighbours (va_Pc [.ref a_sh] (prW (dC, dI) kA sz [(a_sh, .inr (5, [.int thg, .int req, .ref a_ak, .int ocn, .ref a_os, .ref a_le])), (a_os, .inl (kA, 24, .inl osF)), (a_le, .inl (kA, 256, .inl leF))])) (va_Qv (fun (u : (Nat → Int32)) => K u) (poW (dC, dI) (va_A [(a_sh, .inr (5, [.int thg, .int req, .ref a_ak, .int ocn, .ref a_os, .ref a_le])), (a_os, .inl (kA, 24, .inl osF)), (a_le, .inl (kA, 256, .inl leF))] sz) (fun (u : (Nat → Int32)) => [(a_sh, .inr (5, [.int thg, .int req, .ref a_ak, .int ocn, .ref a_os, .ref a_le])), (a_os, .inl (kA, 24, .inl osF)), (a_le, .inl (kA, 256, .inl u))])) (va_A [(a_sh, .inr (5, [.int thg, .int req, .ref a_ak, .int ocn, .ref a_os, .ref a_le])), (a_os, .inl (kA, 24, .inl osF)), (a_le, .inl (kA, 256, .inl leF))] sz)) 0 0 (va_A [(a_sh, .inr (5, [.int thg, .int req, .ref a_ak, .int ocn, .ref a_os, .ref a_le])), (a_os, .inl (kA, 24, .inl osF)), (a_le, .inl (kA, 256, .inl leF))] sz) := by
  refine Met.ofW (cc := cX5_exchangeNeighbours) (maxL := 4) (ret := none) (by decide) rfl ?_
  intro p e s m args below meth c s₁ B hml hv
  obtain ⟨hargs, hsz, hP, hK, hD0, hN⟩ := hv
  have hx := B.exec
  have hb := B.bytes
  have hr := B.returns
  have hts := atoms_spec (ws := wsX5_exchangeNeighbours) B.pre
  have hown : s.vm.findClass RX5 = some m.cls := findClass_of_methodNamed B.named
  have hlocks := B.notSynchronized
  subst hsz
  have hD := hD0.self (sz := s.heap.size)
  generalize hAe : va_A [(a_sh, .inr (5, [.int thg, .int req, .ref a_ak, .int ocn, .ref a_os, .ref a_le])), (a_os, .inl (kA, 24, .inl osF)), (a_le, .inl (kA, 256, .inl leF))] s.heap.size = A at hD ⊢
  have hA : ∀ q : Nat, s.heap.size ≤ q → A q := fun q h => by rw [← hAe]; exact Or.inr h
  have hS : va_S A s.heap s.heap [] := va_S.rf
  obtain ⟨Q, hQ⟩ : ∃ Q : State → Prop, Q = MQ below (va_Qv (fun (u : (Nat → Int32)) => K u) (poW (dC, dI) A (fun (u : (Nat → Int32)) => [(a_sh, .inr (5, [.int thg, .int req, .ref a_ak, .int ocn, .ref a_os, .ref a_le])), (a_os, .inl (kA, 24, .inl osF)), (a_le, .inl (kA, 256, .inl u))])) A) args s 0 0 A := ⟨_, rfl⟩
  rw [← hQ]
  have hP : va_P (dC, dI) vwCl [(a_sh, .inr (5, [.int thg, .int req, .ref a_ak, .int ocn, .ref a_os, .ref a_le])), (a_os, .inl (kA, 24, .inl osF)), (a_le, .inl (kA, 256, .inl leF))] s.heap := hP
  refine en_ok hargs (Nat.le_of_ble_eq_true rfl) (fun ls hl => ?_)
  have hl : lv_has ls 4 [(0, .ref a_sh)] := hl
  have h := hg
  unfold g_X5_exchangeNeighbours at h
  refine lv_iconst (v := (1 : Int32)) hx hb dX5_exchangeNeighbours_0 (by decide +kernel) ?_
  refine lv_istore_n (lv' := [(1, .int (1 : Int32)), (0, .ref a_sh)]) hx hb dX5_exchangeNeighbours_1 rfl hl (by decide) rfl (fun ls hl => ?_)
  refine lv_iconst (v := (0 : Int32)) hx hb dX5_exchangeNeighbours_2 (by decide +kernel) ?_
  refine lv_istore_n (lv' := [(2, .int (0 : Int32)), (1, .int (1 : Int32)), (0, .ref a_sh)]) hx hb dX5_exchangeNeighbours_3 rfl hl (by decide) rfl (fun ls hl => ?_)
  obtain ⟨J4, ⟨n4, h⟩, hz4, hs4⟩ := h
  have hL4 : ∀ (n4 : Nat) (v1_4 : Int32) (v2_4 : Int32) (leF_4 : Nat → Int32), J4 n4 v1_4 v2_4 leF_4 → ∀ (H : Heap) (locs : List Loc) (ls : Array Slot), va_P (dC, dI) vwCl [(a_sh, .inr (5, [.int thg, .int req, .ref a_ak, .int ocn, .ref a_os, .ref a_le])), (a_os, .inl (kA, 24, .inl osF)), (a_le, .inl (kA, 256, .inl leF_4))] H → va_D A [(a_sh, .inr (5, [.int thg, .int req, .ref a_ak, .int ocn, .ref a_os, .ref a_le])), (a_os, .inl (kA, 24, .inl osF)), (a_le, .inl (kA, 256, .inl leF_4))] → va_S A s.heap H locs → lv_has ls 4 [(0, .ref a_sh), (1, .int v1_4), (2, .int v2_4)] → W p l e (headSpec wsX5_exchangeNeighbours rmX5_exchangeNeighbours).room s m args below meth c H locs 0 0 Q (F0 m 4 ls []) := by
    intro n4
    induction n4 with
    | zero => intro v1_4 v2_4 leF_4 h; exact absurd h (hz4 v1_4 v2_4 leF_4)
    | succ n4 ih4 =>
      intro v1_4 v2_4 leF_4 h H locs ls hP hD hS hl
      replace h := hs4 n4 v1_4 v2_4 leF_4 h
      refine lv_iload_n hx hb dX5_exchangeNeighbours_4 rfl (lv_at hl 1 rfl) ?_
      refine lv_if_eq (tgt := 64) hx hb dX5_exchangeNeighbours_5 (by decide) (fun c5 => ?_) (fun c5 => ?_)
      · replace h := h.1 c5
        rw [hQ]
        exact rt_v (leF_4) hx hb hr hlocks h hP hD hS dX5_exchangeNeighbours_64
      · replace h := h.2 c5
        refine lv_iload_n hx hb dX5_exchangeNeighbours_8 rfl (lv_at hl 2 rfl) ?_
        refine lv_aload_n hx hb dX5_exchangeNeighbours_9 rfl (lv_at hl 0 rfl) ?_
        refine va_get (D := (dC, dI)) (ci := 5) (v := .int thg) (C := RX5) (T := TX5) (N := 6) hx hb hts (fun _ h => List.mem_cons_of_mem _ (List.mem_append_right _ h)) hown hK hP 0 rfl rfl 0 (by decide) (hts (.fieldLink RX5 21 "RentOrBuy$Shelf" "things" "I") (List.mem_cons_of_mem _ (List.mem_append_left _ (List.mem_of_getElem? (i := 0) rfl)))) (fun _ h9 => h9) rfl dX5_exchangeNeighbours_10 ?_
        refine lv_aload_n hx hb dX5_exchangeNeighbours_13 rfl (lv_at hl 0 rfl) ?_
        refine va_get (D := (dC, dI)) (ci := 5) (v := .int thg) (C := RX5) (T := TX5) (N := 6) hx hb hts (fun _ h => List.mem_cons_of_mem _ (List.mem_append_right _ h)) hown hK hP 0 rfl rfl 0 (by decide) (hts (.fieldLink RX5 21 "RentOrBuy$Shelf" "things" "I") (List.mem_cons_of_mem _ (List.mem_append_left _ (List.mem_of_getElem? (i := 0) rfl)))) (fun _ h9 => h9) rfl dX5_exchangeNeighbours_14 ?_
        refine lv_iconst (v := (1 : Int32)) hx hb dX5_exchangeNeighbours_17 (by decide +kernel) ?_
        refine lv_isub hx hb dX5_exchangeNeighbours_18 ?_
        refine lv_imul hx hb dX5_exchangeNeighbours_19 ?_
        refine lv_iconst (v := (2 : Int32)) hx hb dX5_exchangeNeighbours_20 (by decide +kernel) ?_
        obtain ⟨hz21, h⟩ := h
        refine lv_idiv hx hb dX5_exchangeNeighbours_21 hz21 ?_
        refine lv_icmp_ge (tgt := 64) hx hb dX5_exchangeNeighbours_22 (by decide) (fun c22 => ?_) (fun c22 => ?_)
        · replace h := h.1 c22
          rw [hQ]
          exact rt_v (leF_4) hx hb hr hlocks h hP hD hS dX5_exchangeNeighbours_64
        · replace h := h.2 c22
          refine lv_iconst (v := (0 : Int32)) hx hb dX5_exchangeNeighbours_25 (by decide +kernel) ?_
          refine lv_istore_n (lv' := [(1, .int (0 : Int32)), (0, .ref a_sh), (2, .int v2_4)]) hx hb dX5_exchangeNeighbours_26 rfl hl (by decide) rfl (fun ls hl => ?_)
          refine lv_iconst (v := (0 : Int32)) hx hb dX5_exchangeNeighbours_27 (by decide +kernel) ?_
          refine lv_istore_n (lv' := [(3, .int (0 : Int32)), (1, .int (0 : Int32)), (0, .ref a_sh), (2, .int v2_4)]) hx hb dX5_exchangeNeighbours_28 rfl hl (by decide) rfl (fun ls hl => ?_)
          obtain ⟨J29, ⟨n29, h⟩, hz29, hs29⟩ := h
          have hL29 : ∀ (n29 : Nat) (v1_29 : Int32) (v3_29 : Int32) (leF_29 : Nat → Int32), J29 n29 v1_29 v3_29 leF_29 → ∀ (H : Heap) (locs : List Loc) (ls : Array Slot), va_P (dC, dI) vwCl [(a_sh, .inr (5, [.int thg, .int req, .ref a_ak, .int ocn, .ref a_os, .ref a_le])), (a_os, .inl (kA, 24, .inl osF)), (a_le, .inl (kA, 256, .inl leF_29))] H → va_D A [(a_sh, .inr (5, [.int thg, .int req, .ref a_ak, .int ocn, .ref a_os, .ref a_le])), (a_os, .inl (kA, 24, .inl osF)), (a_le, .inl (kA, 256, .inl leF_29))] → va_S A s.heap H locs → lv_has ls 4 [(0, .ref a_sh), (1, .int v1_29), (2, .int v2_4), (3, .int v3_29)] → W p l e (headSpec wsX5_exchangeNeighbours rmX5_exchangeNeighbours).room s m args below meth c H locs 0 0 Q (F0 m 29 ls []) := by
            intro n29
            induction n29 with
            | zero => intro v1_29 v3_29 leF_29 h; exact absurd h (hz29 v1_29 v3_29 leF_29)
            | succ n29 ih29 =>
              intro v1_29 v3_29 leF_29 h H locs ls hP hD hS hl
              replace h := hs29 n29 v1_29 v3_29 leF_29 h
              refine lv_iload_n hx hb dX5_exchangeNeighbours_29 rfl (lv_at hl 3 rfl) ?_
              refine lv_aload_n hx hb dX5_exchangeNeighbours_30 rfl (lv_at hl 0 rfl) ?_
              refine va_get (D := (dC, dI)) (ci := 5) (v := .int ocn) (C := RX5) (T := TX5) (N := 6) hx hb hts (fun _ h => List.mem_cons_of_mem _ (List.mem_append_right _ h)) hown hK hP 0 rfl rfl 3 (by decide) (hts (.fieldLink RX5 31 "RentOrBuy$Shelf" "orderCount" "I") (List.mem_cons_of_mem _ (List.mem_append_left _ (List.mem_of_getElem? (i := 1) rfl)))) (fun _ h9 => h9) rfl dX5_exchangeNeighbours_31 ?_
              refine lv_icmp_ge (tgt := 58) hx hb dX5_exchangeNeighbours_34 (by decide) (fun c34 => ?_) (fun c34 => ?_)
              · replace h := h.1 c34
                refine lv_iinc (v := (v2_4 + (1 : Int32))) (lv' := [(2, .int (v2_4 + (1 : Int32))), (0, .ref a_sh), (1, .int v1_29), (3, .int v3_29)]) hx hb dX5_exchangeNeighbours_58 hl (k := 2) rfl (by rfl) (by decide) rfl (fun ls hl => ?_)
                refine lv_goto (tgt := 4) hx hb dX5_exchangeNeighbours_61 (by decide) ?_
                exact ih4 v1_29 (v2_4 + (1 : Int32)) leF_29 h _ _ _ hP hD hS (lv_sub hl [1, 2, 0] rfl)
              · replace h := h.2 c34
                refine lv_aload_n hx hb dX5_exchangeNeighbours_37 rfl (lv_at hl 0 rfl) ?_
                refine lv_aload_n hx hb dX5_exchangeNeighbours_38 rfl (lv_at hl 0 rfl) ?_
                refine va_get (D := (dC, dI)) (ci := 5) (v := .ref a_os) (C := RX5) (T := TX5) (N := 6) hx hb hts (fun _ h => List.mem_cons_of_mem _ (List.mem_append_right _ h)) hown hK hP 0 rfl rfl 4 (by decide) (hts (.fieldLink RX5 15 "RentOrBuy$Shelf" "orders" "[I") (List.mem_cons_of_mem _ (List.mem_append_left _ (List.mem_of_getElem? (i := 2) rfl)))) (fun _ h9 => h9) rfl dX5_exchangeNeighbours_39 ?_
                refine lv_iload_n hx hb dX5_exchangeNeighbours_42 rfl (lv_at hl 3 rfl) ?_
                obtain ⟨hi43, h⟩ := h
                refine va_iald hx hb hK hP 1 0 rfl rfl hi43 dX5_exchangeNeighbours_43 ?_
                have hPc := hP.sub (ws' := [(a_sh, .inr (5, [.int thg, .int req, .ref a_ak, .int ocn, .ref a_os, .ref a_le])), (a_le, .inl (kA, 256, .inl leF_29))]) [0, 2] rfl
                have hDc := hD.sub (ws' := [(a_sh, .inr (5, [.int thg, .int req, .ref a_ak, .int ocn, .ref a_os, .ref a_le])), (a_le, .inl (kA, 256, .inl leF_29))]) [0, 2] (by decide) rfl
                refine fr_i (wr := [(a_os, .inl (kA, 24, .inl osF))]) (WN := fun (u44 : (Nat → Int32)) => [(a_sh, .inr (5, [.int thg, .int req, .ref a_ak, .int ocn, .ref a_os, .ref a_le])), (a_os, .inl (kA, 24, .inl osF)), (a_le, .inl (kA, 256, .inl u44))]) (va_runV (As := [.int (osF v3_29.toNatClampNeg)]) (rest := []) ⟨hx, hb, hml, hown, hts⟩ (c_X5_exchangeIn l dC dI kA a_sh a_le a_ak a_os H.size thg req ocn leF_29 (osF v3_29.toNatClampNeg) _ h) (cwV 1 hts gX5_exchangeNeighbours_X5_exchangeIn rfl rfl rfl (by decide +kernel) ⟨Nat.le_of_ble_eq_true rfl, Nat.le_of_ble_eq_true rfl⟩) (prW.preV (ci := 5) (q0 := 0) hPc hDc hK hN rfl rfl) rfl rfl hl.1 rfl (lv_room (Nat.le_of_ble_eq_true rfl)) dX5_exchangeNeighbours_44 ⟨Nat.le_of_ble_eq_true rfl, Nat.le_of_ble_eq_true rfl⟩) hP hD hS hA [0, 2] [1] rfl rfl (by decide) (by decide) [1, 0, 2] (by decide) (fun _ => rfl) (fun r44 u44 H locs h hP hD hS => ?_)
                obtain ⟨y44_leF', rfl⟩ : ∃ z, z = u44 := ⟨_, rfl⟩
                have hP : va_P (dC, dI) vwCl [(a_sh, .inr (5, [.int thg, .int req, .ref a_ak, .int ocn, .ref a_os, .ref a_le])), (a_os, .inl (kA, 24, .inl osF)), (a_le, .inl (kA, 256, .inl y44_leF'))] H := hP
                have hD : va_D A [(a_sh, .inr (5, [.int thg, .int req, .ref a_ak, .int ocn, .ref a_os, .ref a_le])), (a_os, .inl (kA, 24, .inl osF)), (a_le, .inl (kA, 256, .inl y44_leF'))] := hD
                obtain ⟨J52, hR52, h⟩ := h
                have hJ52 : ∀ (v1_52 : Int32), J52 v1_52 → ∀ (H : Heap) (locs : List Loc) (ls : Array Slot), va_P (dC, dI) vwCl [(a_sh, .inr (5, [.int thg, .int req, .ref a_ak, .int ocn, .ref a_os, .ref a_le])), (a_os, .inl (kA, 24, .inl osF)), (a_le, .inl (kA, 256, .inl y44_leF'))] H → va_D A [(a_sh, .inr (5, [.int thg, .int req, .ref a_ak, .int ocn, .ref a_os, .ref a_le])), (a_os, .inl (kA, 24, .inl osF)), (a_le, .inl (kA, 256, .inl y44_leF'))] → va_S A s.heap H locs → lv_has ls 4 [(0, .ref a_sh), (1, .int v1_52), (2, .int v2_4), (3, .int v3_29)] → W p l e (headSpec wsX5_exchangeNeighbours rmX5_exchangeNeighbours).room s m args below meth c H locs 0 0 Q (F0 m 52 ls []) := by
                  intro v1_52 h H locs ls hP hD hS hl
                  replace h := hR52 v1_52 h
                  refine lv_iinc (v := (v3_29 + (1 : Int32))) (lv' := [(3, .int (v3_29 + (1 : Int32))), (0, .ref a_sh), (1, .int v1_52), (2, .int v2_4)]) hx hb dX5_exchangeNeighbours_52 hl (k := 3) rfl (by rfl) (by decide) rfl (fun ls hl => ?_)
                  refine lv_goto (tgt := 29) hx hb dX5_exchangeNeighbours_55 (by decide) ?_
                  exact ih29 v1_52 (v3_29 + (1 : Int32)) y44_leF' h _ _ _ hP hD hS (lv_sub hl [1, 2, 3, 0] rfl)
                refine lv_if_eq (tgt := 52) hx hb dX5_exchangeNeighbours_47 (by decide) (fun c47 => ?_) (fun c47 => ?_)
                · replace h := h.1 c47
                  exact hJ52 v1_29 h _ _ _ hP hD hS (lv_sub hl [0, 1, 2, 3] rfl)
                · replace h := h.2 c47
                  refine lv_iconst (v := (1 : Int32)) hx hb dX5_exchangeNeighbours_50 (by decide +kernel) ?_
                  refine lv_istore_n (lv' := [(1, .int (1 : Int32)), (0, .ref a_sh), (2, .int v2_4), (3, .int v3_29)]) hx hb dX5_exchangeNeighbours_51 rfl hl (by decide) rfl (fun ls hl => ?_)
                  exact hJ52 (1 : Int32) h _ _ _ hP hD hS (lv_sub hl [1, 0, 2, 3] rfl)
          exact hL29 n29 (0 : Int32) (0 : Int32) leF_4 h _ _ _ hP hD hS (lv_sub hl [2, 1, 3, 0] rfl)
  exact hL4 n4 (1 : Int32) (0 : Int32) leF h _ _ _ hP hD hS (lv_sub hl [2, 1, 0] rfl)

/-- RentOrBuy$Shelf.placeOf -/
def rmX5_placeOf : Room := { frames := 1, cells := 0, slots := 0, locals := 21 }
set_option maxHeartbeats 4000000 in
set_option maxRecDepth 100000 in
theorem c_X5_placeOf (l : Launch) (dC : Nat → ClassId) (dI : Nat → Nat → Nat) (kA : ClassId) (a_sh a_ak a_os a_le : Nat) (sz : Nat) (thg : Int32) (req : Int32) (ocn : Int32) (p1 : Int32) (p2 : Int32) (K : Int32 → Prop) (hg : g_X5_placeOf thg req ocn p1 p2 K) : Met l yX5_placeOf wsX5_placeOf rmX5_placeOf (va_Pc [.ref a_sh, .int p1, .int p2] (prW (dC, dI) kA sz [(a_sh, .inr (5, [.int thg, .int req, .ref a_ak, .int ocn, .ref a_os, .ref a_le]))])) (va_Qi (fun (r : Int32) (u : Unit) => K r) (poW (dC, dI) (va_A [(a_sh, .inr (5, [.int thg, .int req, .ref a_ak, .int ocn, .ref a_os, .ref a_le]))] sz) (fun (u : Unit) => [(a_sh, .inr (5, [.int thg, .int req, .ref a_ak, .int ocn, .ref a_os, .ref a_le]))])) (va_A [(a_sh, .inr (5, [.int thg, .int req, .ref a_ak, .int ocn, .ref a_os, .ref a_le]))] sz)) 0 0 (va_A [(a_sh, .inr (5, [.int thg, .int req, .ref a_ak, .int ocn, .ref a_os, .ref a_le]))] sz) := by
  refine Met.ofW (cc := cX5_placeOf) (maxL := 4) (ret := (some .int)) (by decide) rfl ?_
  intro p e s m args below meth c s₁ B hml hv
  obtain ⟨hargs, hsz, hP, hK, hD0, hN⟩ := hv
  have hx := B.exec
  have hb := B.bytes
  have hr := B.returns
  have hts := atoms_spec (ws := wsX5_placeOf) B.pre
  have hown : s.vm.findClass RX5 = some m.cls := findClass_of_methodNamed B.named
  have hlocks := B.notSynchronized
  subst hsz
  have hD := hD0.self (sz := s.heap.size)
  generalize hAe : va_A [(a_sh, .inr (5, [.int thg, .int req, .ref a_ak, .int ocn, .ref a_os, .ref a_le]))] s.heap.size = A at hD ⊢
  have hA : ∀ q : Nat, s.heap.size ≤ q → A q := fun q h => by rw [← hAe]; exact Or.inr h
  have hS : va_S A s.heap s.heap [] := va_S.rf
  obtain ⟨Q, hQ⟩ : ∃ Q : State → Prop, Q = MQ below (va_Qi (fun (r : Int32) (u : Unit) => K r) (poW (dC, dI) A (fun (u : Unit) => [(a_sh, .inr (5, [.int thg, .int req, .ref a_ak, .int ocn, .ref a_os, .ref a_le]))])) A) args s 0 0 A := ⟨_, rfl⟩
  rw [← hQ]
  have hP : va_P (dC, dI) vwCl [(a_sh, .inr (5, [.int thg, .int req, .ref a_ak, .int ocn, .ref a_os, .ref a_le]))] s.heap := hP
  refine en_ok hargs (Nat.le_of_ble_eq_true rfl) (fun ls hl => ?_)
  have hl : lv_has ls 4 [(0, .ref a_sh), (1, .int p1), (2, .int p2)] := hl
  have h := hg
  unfold g_X5_placeOf at h
  refine lv_iconst (v := (0 : Int32)) hx hb dX5_placeOf_0 (by decide +kernel) ?_
  refine lv_istore_n (lv' := [(3, .int (0 : Int32)), (0, .ref a_sh), (1, .int p1), (2, .int p2)]) hx hb dX5_placeOf_1 rfl hl (by decide) rfl (fun ls hl => ?_)
  obtain ⟨J2, ⟨n2, h⟩, hz2, hs2⟩ := h
  have hL2 : ∀ (n2 : Nat) (v3_2 : Int32), J2 n2 v3_2 → ∀ (H : Heap) (locs : List Loc) (ls : Array Slot), va_P (dC, dI) vwCl [(a_sh, .inr (5, [.int thg, .int req, .ref a_ak, .int ocn, .ref a_os, .ref a_le]))] H → va_D A [(a_sh, .inr (5, [.int thg, .int req, .ref a_ak, .int ocn, .ref a_os, .ref a_le]))] → va_S A s.heap H locs → lv_has ls 4 [(0, .ref a_sh), (1, .int p1), (2, .int p2), (3, .int v3_2)] → W p l e (headSpec wsX5_placeOf rmX5_placeOf).room s m args below meth c H locs 0 0 Q (F0 m 2 ls []) := by
    intro n2
    induction n2 with
    | zero => intro v3_2 h; exact absurd h (hz2 v3_2)
    | succ n2 ih2 =>
      intro v3_2 h H locs ls hP hD hS hl
      replace h := hs2 n2 v3_2 h
      refine lv_iload_n hx hb dX5_placeOf_2 rfl (lv_at hl 3 rfl) ?_
      refine lv_aload_n hx hb dX5_placeOf_3 rfl (lv_at hl 0 rfl) ?_
      refine va_get (D := (dC, dI)) (ci := 5) (v := .int thg) (C := RX5) (T := TX5) (N := 6) hx hb hts (fun _ h => List.mem_cons_of_mem _ (List.mem_append_right _ h)) hown hK hP 0 rfl rfl 0 (by decide) (hts (.fieldLink RX5 21 "RentOrBuy$Shelf" "things" "I") (List.mem_cons_of_mem _ (List.mem_append_left _ (List.mem_of_getElem? (i := 0) rfl)))) (fun _ h9 => h9) rfl dX5_placeOf_4 ?_
      refine lv_iconst (v := (1 : Int32)) hx hb dX5_placeOf_7 (by decide +kernel) ?_
      refine lv_isub hx hb dX5_placeOf_8 ?_
      refine lv_icmp_ge (tgt := 27) hx hb dX5_placeOf_9 (by decide) (fun c9 => ?_) (fun c9 => ?_)
      · replace h := h.1 c9
        refine lv_iload_n hx hb dX5_placeOf_27 rfl (lv_at hl 3 rfl) ?_
        rw [hQ]
        exact rt_i () hx hb hr hlocks h hP hD hS dX5_placeOf_28
      · replace h := h.2 c9
        refine lv_iload_n hx hb dX5_placeOf_12 rfl (lv_at hl 1 rfl) ?_
        refine lv_iload_n hx hb dX5_placeOf_13 rfl (lv_at hl 3 rfl) ?_
        have hPc := hP.sub (ws' := []) [] rfl
        have hDc := hD.sub (ws' := []) [] (by decide) rfl
        refine fr_i (wr := [(a_sh, .inr (5, [.int thg, .int req, .ref a_ak, .int ocn, .ref a_os, .ref a_le]))]) (WN := fun (u14 : Unit) => [(a_sh, .inr (5, [.int thg, .int req, .ref a_ak, .int ocn, .ref a_os, .ref a_le]))]) (va_runS (As := [.int p1, .int v3_2]) (rest := []) ⟨hx, hb, hml, hown, hts⟩ (c_X5_thingAt l dC dI kA H.size p1 v3_2 _ h) (va_cwS 2 hts gX5_placeOf_X5_thingAt rfl rfl rfl (by decide +kernel) ⟨Nat.le_of_ble_eq_true rfl, Nat.le_of_ble_eq_true rfl⟩) (prW.preS hPc hDc hK hN) rfl rfl hl.1 rfl (lv_room (Nat.le_of_ble_eq_true rfl)) dX5_placeOf_14 ⟨Nat.le_of_ble_eq_true rfl, Nat.le_of_ble_eq_true rfl⟩) hP hD hS hA [] [0] rfl rfl (by decide) (by decide) [0] (by decide) (fun _ => rfl) (fun r14 u14 H locs h hP hD hS => ?_)
        have hP : va_P (dC, dI) vwCl [(a_sh, .inr (5, [.int thg, .int req, .ref a_ak, .int ocn, .ref a_os, .ref a_le]))] H := hP
        have hD : va_D A [(a_sh, .inr (5, [.int thg, .int req, .ref a_ak, .int ocn, .ref a_os, .ref a_le]))] := hD
        refine lv_iload_n hx hb dX5_placeOf_17 rfl (lv_at hl 2 rfl) ?_
        refine lv_icmp_eq (tgt := 27) hx hb dX5_placeOf_18 (by decide) (fun c18 => ?_) (fun c18 => ?_)
        · replace h := h.1 c18
          refine lv_iload_n hx hb dX5_placeOf_27 rfl (lv_at hl 3 rfl) ?_
          rw [hQ]
          exact rt_i () hx hb hr hlocks h hP hD hS dX5_placeOf_28
        · replace h := h.2 c18
          refine lv_iinc (v := (v3_2 + (1 : Int32))) (lv' := [(3, .int (v3_2 + (1 : Int32))), (0, .ref a_sh), (1, .int p1), (2, .int p2)]) hx hb dX5_placeOf_21 hl (k := 3) rfl (by rfl) (by decide) rfl (fun ls hl => ?_)
          refine lv_goto (tgt := 2) hx hb dX5_placeOf_24 (by decide) ?_
          exact ih2 (v3_2 + (1 : Int32)) h _ _ _ hP hD hS (lv_sub hl [1, 2, 3, 0] rfl)
  exact hL2 n2 (0 : Int32) h _ _ _ hP hD hS (lv_sub hl [1, 2, 3, 0] rfl)

/-- RentOrBuy$Shelf.payPlaces -/
def rmX5_payPlaces : Room := { frames := 2, cells := 0, slots := 0, locals := 44 }
set_option maxHeartbeats 4000000 in
set_option maxRecDepth 100000 in
theorem c_X5_payPlaces (l : Launch) (dC : Nat → ClassId) (dI : Nat → Nat → Nat) (kA : ClassId) (a_sh a_os a_le a_ak : Nat) (sz : Nat) (thg : Int32) (req : Int32) (ocn : Int32) (osF : Nat → Int32) (leF : Nat → Int32) (p1 : Int32) (K : (Nat → Int32) → Prop) (hg : g_X5_payPlaces thg req ocn osF leF p1 K) : Met l yX5_payPlaces wsX5_payPlaces rmX5_payPlaces (va_Pc [.ref a_sh, .int p1] (prW (dC, dI) kA sz [(a_sh, .inr (5, [.int thg, .int req, .ref a_ak, .int ocn, .ref a_os, .ref a_le])), (a_os, .inl (kA, 24, .inl osF)), (a_le, .inl (kA, 256, .inl leF))])) (va_Qv (fun (u : (Nat → Int32)) => K u) (poW (dC, dI) (va_A [(a_sh, .inr (5, [.int thg, .int req, .ref a_ak, .int ocn, .ref a_os, .ref a_le])), (a_os, .inl (kA, 24, .inl osF)), (a_le, .inl (kA, 256, .inl leF))] sz) (fun (u : (Nat → Int32)) => [(a_sh, .inr (5, [.int thg, .int req, .ref a_ak, .int ocn, .ref a_os, .ref a_le])), (a_os, .inl (kA, 24, .inl osF)), (a_le, .inl (kA, 256, .inl u))])) (va_A [(a_sh, .inr (5, [.int thg, .int req, .ref a_ak, .int ocn, .ref a_os, .ref a_le])), (a_os, .inl (kA, 24, .inl osF)), (a_le, .inl (kA, 256, .inl leF))] sz)) 0 0 (va_A [(a_sh, .inr (5, [.int thg, .int req, .ref a_ak, .int ocn, .ref a_os, .ref a_le])), (a_os, .inl (kA, 24, .inl osF)), (a_le, .inl (kA, 256, .inl leF))] sz) := by
  refine Met.ofW (cc := cX5_payPlaces) (maxL := 3) (ret := none) (by decide) rfl ?_
  intro p e s m args below meth c s₁ B hml hv
  obtain ⟨hargs, hsz, hP, hK, hD0, hN⟩ := hv
  have hx := B.exec
  have hb := B.bytes
  have hr := B.returns
  have hts := atoms_spec (ws := wsX5_payPlaces) B.pre
  have hown : s.vm.findClass RX5 = some m.cls := findClass_of_methodNamed B.named
  have hlocks := B.notSynchronized
  subst hsz
  have hD := hD0.self (sz := s.heap.size)
  generalize hAe : va_A [(a_sh, .inr (5, [.int thg, .int req, .ref a_ak, .int ocn, .ref a_os, .ref a_le])), (a_os, .inl (kA, 24, .inl osF)), (a_le, .inl (kA, 256, .inl leF))] s.heap.size = A at hD ⊢
  have hA : ∀ q : Nat, s.heap.size ≤ q → A q := fun q h => by rw [← hAe]; exact Or.inr h
  have hS : va_S A s.heap s.heap [] := va_S.rf
  obtain ⟨Q, hQ⟩ : ∃ Q : State → Prop, Q = MQ below (va_Qv (fun (u : (Nat → Int32)) => K u) (poW (dC, dI) A (fun (u : (Nat → Int32)) => [(a_sh, .inr (5, [.int thg, .int req, .ref a_ak, .int ocn, .ref a_os, .ref a_le])), (a_os, .inl (kA, 24, .inl osF)), (a_le, .inl (kA, 256, .inl u))])) A) args s 0 0 A := ⟨_, rfl⟩
  rw [← hQ]
  have hP : va_P (dC, dI) vwCl [(a_sh, .inr (5, [.int thg, .int req, .ref a_ak, .int ocn, .ref a_os, .ref a_le])), (a_os, .inl (kA, 24, .inl osF)), (a_le, .inl (kA, 256, .inl leF))] s.heap := hP
  refine en_ok hargs (Nat.le_of_ble_eq_true rfl) (fun ls hl => ?_)
  have hl : lv_has ls 3 [(0, .ref a_sh), (1, .int p1)] := hl
  have h := hg
  unfold g_X5_payPlaces at h
  refine lv_iconst (v := (0 : Int32)) hx hb dX5_payPlaces_0 (by decide +kernel) ?_
  refine lv_istore_n (lv' := [(2, .int (0 : Int32)), (0, .ref a_sh), (1, .int p1)]) hx hb dX5_payPlaces_1 rfl hl (by decide) rfl (fun ls hl => ?_)
  obtain ⟨J2, ⟨n2, h⟩, hz2, hs2⟩ := h
  have hL2 : ∀ (n2 : Nat) (v2_2 : Int32) (leF_2 : Nat → Int32), J2 n2 v2_2 leF_2 → ∀ (H : Heap) (locs : List Loc) (ls : Array Slot), va_P (dC, dI) vwCl [(a_sh, .inr (5, [.int thg, .int req, .ref a_ak, .int ocn, .ref a_os, .ref a_le])), (a_os, .inl (kA, 24, .inl osF)), (a_le, .inl (kA, 256, .inl leF_2))] H → va_D A [(a_sh, .inr (5, [.int thg, .int req, .ref a_ak, .int ocn, .ref a_os, .ref a_le])), (a_os, .inl (kA, 24, .inl osF)), (a_le, .inl (kA, 256, .inl leF_2))] → va_S A s.heap H locs → lv_has ls 3 [(0, .ref a_sh), (1, .int p1), (2, .int v2_2)] → W p l e (headSpec wsX5_payPlaces rmX5_payPlaces).room s m args below meth c H locs 0 0 Q (F0 m 2 ls []) := by
    intro n2
    induction n2 with
    | zero => intro v2_2 leF_2 h; exact absurd h (hz2 v2_2 leF_2)
    | succ n2 ih2 =>
      intro v2_2 leF_2 h H locs ls hP hD hS hl
      replace h := hs2 n2 v2_2 leF_2 h
      refine lv_iload_n hx hb dX5_payPlaces_2 rfl (lv_at hl 2 rfl) ?_
      refine lv_aload_n hx hb dX5_payPlaces_3 rfl (lv_at hl 0 rfl) ?_
      refine va_get (D := (dC, dI)) (ci := 5) (v := .int ocn) (C := RX5) (T := TX5) (N := 6) hx hb hts (fun _ h => List.mem_cons_of_mem _ (List.mem_append_right _ h)) hown hK hP 0 rfl rfl 3 (by decide) (hts (.fieldLink RX5 31 "RentOrBuy$Shelf" "orderCount" "I") (List.mem_cons_of_mem _ (List.mem_append_left _ (List.mem_of_getElem? (i := 0) rfl)))) (fun _ h9 => h9) rfl dX5_payPlaces_4 ?_
      refine lv_icmp_ge (tgt := 43) hx hb dX5_payPlaces_7 (by decide) (fun c7 => ?_) (fun c7 => ?_)
      · replace h := h.1 c7
        rw [hQ]
        exact rt_v (leF_2) hx hb hr hlocks h hP hD hS dX5_payPlaces_43
      · replace h := h.2 c7
        refine lv_aload_n hx hb dX5_payPlaces_10 rfl (lv_at hl 0 rfl) ?_
        refine va_get (D := (dC, dI)) (ci := 5) (v := .ref a_le) (C := RX5) (T := TX5) (N := 6) hx hb hts (fun _ h => List.mem_cons_of_mem _ (List.mem_append_right _ h)) hown hK hP 0 rfl rfl 5 (by decide) (hts (.fieldLink RX5 18 "RentOrBuy$Shelf" "least" "[I") (List.mem_cons_of_mem _ (List.mem_append_left _ (List.mem_of_getElem? (i := 1) rfl)))) (fun _ h9 => h9) rfl dX5_payPlaces_11 ?_
        refine lv_aload_n hx hb dX5_payPlaces_14 rfl (lv_at hl 0 rfl) ?_
        refine va_get (D := (dC, dI)) (ci := 5) (v := .ref a_os) (C := RX5) (T := TX5) (N := 6) hx hb hts (fun _ h => List.mem_cons_of_mem _ (List.mem_append_right _ h)) hown hK hP 0 rfl rfl 4 (by decide) (hts (.fieldLink RX5 15 "RentOrBuy$Shelf" "orders" "[I") (List.mem_cons_of_mem _ (List.mem_append_left _ (List.mem_of_getElem? (i := 2) rfl)))) (fun _ h9 => h9) rfl dX5_payPlaces_15 ?_
        refine lv_iload_n hx hb dX5_payPlaces_18 rfl (lv_at hl 2 rfl) ?_
        obtain ⟨hi19, h⟩ := h
        refine va_iald hx hb hK hP 1 0 rfl rfl hi19 dX5_payPlaces_19 ?_
        refine lv_dup2_11 hx hb dX5_payPlaces_20 rfl rfl ?_
        obtain ⟨hi21, h⟩ := h
        refine va_iald hx hb hK hP 2 0 rfl rfl hi21 dX5_payPlaces_21 ?_
        refine lv_aload_n hx hb dX5_payPlaces_22 rfl (lv_at hl 0 rfl) ?_
        refine lv_aload_n hx hb dX5_payPlaces_23 rfl (lv_at hl 0 rfl) ?_
        refine va_get (D := (dC, dI)) (ci := 5) (v := .ref a_os) (C := RX5) (T := TX5) (N := 6) hx hb hts (fun _ h => List.mem_cons_of_mem _ (List.mem_append_right _ h)) hown hK hP 0 rfl rfl 4 (by decide) (hts (.fieldLink RX5 15 "RentOrBuy$Shelf" "orders" "[I") (List.mem_cons_of_mem _ (List.mem_append_left _ (List.mem_of_getElem? (i := 2) rfl)))) (fun _ h9 => h9) rfl dX5_payPlaces_24 ?_
        refine lv_iload_n hx hb dX5_payPlaces_27 rfl (lv_at hl 2 rfl) ?_
        obtain ⟨hi28, h⟩ := h
        refine va_iald hx hb hK hP 1 0 rfl rfl hi28 dX5_payPlaces_28 ?_
        refine lv_iload_n hx hb dX5_payPlaces_29 rfl (lv_at hl 1 rfl) ?_
        have hPc := hP.sub (ws' := [(a_sh, .inr (5, [.int thg, .int req, .ref a_ak, .int ocn, .ref a_os, .ref a_le]))]) [0] rfl
        have hDc := hD.sub (ws' := [(a_sh, .inr (5, [.int thg, .int req, .ref a_ak, .int ocn, .ref a_os, .ref a_le]))]) [0] (by decide) rfl
        refine fr_i (wr := [(a_os, .inl (kA, 24, .inl osF)), (a_le, .inl (kA, 256, .inl leF_2))]) (WN := fun (u30 : Unit) => [(a_sh, .inr (5, [.int thg, .int req, .ref a_ak, .int ocn, .ref a_os, .ref a_le])), (a_os, .inl (kA, 24, .inl osF)), (a_le, .inl (kA, 256, .inl leF_2))]) (va_runV (As := [.int (osF v2_2.toNatClampNeg), .int p1]) (rest := [.int (leF_2 (osF v2_2.toNatClampNeg).toNatClampNeg), .int (osF v2_2.toNatClampNeg), .ref a_le]) ⟨hx, hb, hml, hown, hts⟩ (c_X5_placeOf l dC dI kA a_sh a_ak a_os a_le H.size thg req ocn (osF v2_2.toNatClampNeg) p1 _ h) (cwV 2 hts gX5_payPlaces_X5_placeOf rfl rfl rfl (by decide +kernel) ⟨Nat.le_of_ble_eq_true rfl, Nat.le_of_ble_eq_true rfl⟩) (prW.preV (ci := 5) (q0 := 0) hPc hDc hK hN rfl rfl) rfl rfl hl.1 rfl (lv_room (Nat.le_of_ble_eq_true rfl)) dX5_payPlaces_30 ⟨Nat.le_of_ble_eq_true rfl, Nat.le_of_ble_eq_true rfl⟩) hP hD hS hA [0] [1, 2] rfl rfl (by decide) (by decide) [2, 0, 1] (by decide) (fun _ => rfl) (fun r30 u30 H locs h hP hD hS => ?_)
        have hP : va_P (dC, dI) vwCl [(a_sh, .inr (5, [.int thg, .int req, .ref a_ak, .int ocn, .ref a_os, .ref a_le])), (a_os, .inl (kA, 24, .inl osF)), (a_le, .inl (kA, 256, .inl leF_2))] H := hP
        have hD : va_D A [(a_sh, .inr (5, [.int thg, .int req, .ref a_ak, .int ocn, .ref a_os, .ref a_le])), (a_os, .inl (kA, 24, .inl osF)), (a_le, .inl (kA, 256, .inl leF_2))] := hD
        refine lv_iconst (v := (1 : Int32)) hx hb dX5_payPlaces_33 (by decide +kernel) ?_
        refine lv_iadd hx hb dX5_payPlaces_34 ?_
        refine lv_iadd hx hb dX5_payPlaces_35 ?_
        obtain ⟨hi36, h⟩ := h
        refine va_iast hx hb hK hP hD hS 2 0 rfl rfl hi36 dX5_payPlaces_36 (fun H locs hP hD hS => ?_)
        have hP : va_P (dC, dI) vwCl [(a_sh, .inr (5, [.int thg, .int req, .ref a_ak, .int ocn, .ref a_os, .ref a_le])), (a_os, .inl (kA, 24, .inl osF)), (a_le, .inl (kA, 256, .inl (upd leF_2 (osF v2_2.toNatClampNeg).toNatClampNeg ((leF_2 (osF v2_2.toNatClampNeg).toNatClampNeg) + (r30 + (1 : Int32))))))] H := hP
        have hD : va_D A [(a_sh, .inr (5, [.int thg, .int req, .ref a_ak, .int ocn, .ref a_os, .ref a_le])), (a_os, .inl (kA, 24, .inl osF)), (a_le, .inl (kA, 256, .inl (upd leF_2 (osF v2_2.toNatClampNeg).toNatClampNeg ((leF_2 (osF v2_2.toNatClampNeg).toNatClampNeg) + (r30 + (1 : Int32))))))] := hD
        refine lv_iinc (v := (v2_2 + (1 : Int32))) (lv' := [(2, .int (v2_2 + (1 : Int32))), (0, .ref a_sh), (1, .int p1)]) hx hb dX5_payPlaces_37 hl (k := 2) rfl (by rfl) (by decide) rfl (fun ls hl => ?_)
        refine lv_goto (tgt := 2) hx hb dX5_payPlaces_40 (by decide) ?_
        exact ih2 (v2_2 + (1 : Int32)) (upd leF_2 (osF v2_2.toNatClampNeg).toNatClampNeg ((leF_2 (osF v2_2.toNatClampNeg).toNatClampNeg) + (r30 + (1 : Int32)))) h _ _ _ hP hD hS (lv_sub hl [1, 2, 0] rfl)
  exact hL2 n2 (0 : Int32) leF h _ _ _ hP hD hS (lv_sub hl [1, 2, 0] rfl)

/-- RentOrBuy$Shelf.moveAhead -/
def rmX5_moveAhead : Room := { frames := 2, cells := 0, slots := 0, locals := 43 }
set_option maxHeartbeats 4000000 in
set_option maxRecDepth 100000 in
theorem c_X5_moveAhead (l : Launch) (dC : Nat → ClassId) (dI : Nat → Nat → Nat) (kA : ClassId) (a_sh a_os a_le a_ak : Nat) (sz : Nat) (thg : Int32) (req : Int32) (ocn : Int32) (osF : Nat → Int32) (leF : Nat → Int32) (p1 : Int32) (K : (Nat → Int32) → Prop) (hg : g_X5_moveAhead thg req ocn osF leF p1 K) : Met l yX5_moveAhead wsX5_moveAhead rmX5_moveAhead (va_Pc [.ref a_sh, .int p1] (prW (dC, dI) kA sz [(a_sh, .inr (5, [.int thg, .int req, .ref a_ak, .int ocn, .ref a_os, .ref a_le])), (a_os, .inl (kA, 24, .inl osF)), (a_le, .inl (kA, 256, .inl leF))])) (va_Qv (fun (u : (Nat → Int32)) => K u) (poW (dC, dI) (va_A [(a_sh, .inr (5, [.int thg, .int req, .ref a_ak, .int ocn, .ref a_os, .ref a_le])), (a_os, .inl (kA, 24, .inl osF)), (a_le, .inl (kA, 256, .inl leF))] sz) (fun (u : (Nat → Int32)) => [(a_sh, .inr (5, [.int thg, .int req, .ref a_ak, .int ocn, .ref a_os, .ref a_le])), (a_os, .inl (kA, 24, .inl osF)), (a_le, .inl (kA, 256, .inl u))])) (va_A [(a_sh, .inr (5, [.int thg, .int req, .ref a_ak, .int ocn, .ref a_os, .ref a_le])), (a_os, .inl (kA, 24, .inl osF)), (a_le, .inl (kA, 256, .inl leF))] sz)) 0 0 (va_A [(a_sh, .inr (5, [.int thg, .int req, .ref a_ak, .int ocn, .ref a_os, .ref a_le])), (a_os, .inl (kA, 24, .inl osF)), (a_le, .inl (kA, 256, .inl leF))] sz) := by
  refine Met.ofW (cc := cX5_moveAhead) (maxL := 5) (ret := none) (by decide) rfl ?_
  intro p e s m args below meth c s₁ B hml hv
  obtain ⟨hargs, hsz, hP, hK, hD0, hN⟩ := hv
  have hx := B.exec
  have hb := B.bytes
  have hr := B.returns
  have hts := atoms_spec (ws := wsX5_moveAhead) B.pre
  have hown : s.vm.findClass RX5 = some m.cls := findClass_of_methodNamed B.named
  have hlocks := B.notSynchronized
  subst hsz
  have hD := hD0.self (sz := s.heap.size)
  generalize hAe : va_A [(a_sh, .inr (5, [.int thg, .int req, .ref a_ak, .int ocn, .ref a_os, .ref a_le])), (a_os, .inl (kA, 24, .inl osF)), (a_le, .inl (kA, 256, .inl leF))] s.heap.size = A at hD ⊢
  have hA : ∀ q : Nat, s.heap.size ≤ q → A q := fun q h => by rw [← hAe]; exact Or.inr h
  have hS : va_S A s.heap s.heap [] := va_S.rf
  obtain ⟨Q, hQ⟩ : ∃ Q : State → Prop, Q = MQ below (va_Qv (fun (u : (Nat → Int32)) => K u) (poW (dC, dI) A (fun (u : (Nat → Int32)) => [(a_sh, .inr (5, [.int thg, .int req, .ref a_ak, .int ocn, .ref a_os, .ref a_le])), (a_os, .inl (kA, 24, .inl osF)), (a_le, .inl (kA, 256, .inl u))])) A) args s 0 0 A := ⟨_, rfl⟩
  rw [← hQ]
  have hP : va_P (dC, dI) vwCl [(a_sh, .inr (5, [.int thg, .int req, .ref a_ak, .int ocn, .ref a_os, .ref a_le])), (a_os, .inl (kA, 24, .inl osF)), (a_le, .inl (kA, 256, .inl leF))] s.heap := hP
  refine en_ok hargs (Nat.le_of_ble_eq_true rfl) (fun ls hl => ?_)
  have hl : lv_has ls 5 [(0, .ref a_sh), (1, .int p1)] := hl
  have h := hg
  unfold g_X5_moveAhead at h
  refine lv_aload_n hx hb dX5_moveAhead_0 rfl (lv_at hl 0 rfl) ?_
  refine va_get (D := (dC, dI)) (ci := 5) (v := .int thg) (C := RX5) (T := TX5) (N := 6) hx hb hts (fun _ h => List.mem_cons_of_mem _ (List.mem_append_right _ h)) hown hK hP 0 rfl rfl 0 (by decide) (hts (.fieldLink RX5 21 "RentOrBuy$Shelf" "things" "I") (List.mem_cons_of_mem _ (List.mem_append_left _ (List.mem_of_getElem? (i := 0) rfl)))) (fun _ h9 => h9) rfl dX5_moveAhead_1 ?_
  refine lv_iconst (v := (1 : Int32)) hx hb dX5_moveAhead_4 (by decide +kernel) ?_
  refine lv_isub hx hb dX5_moveAhead_5 ?_
  refine lv_istore_n (lv' := [(2, .int (thg - (1 : Int32))), (0, .ref a_sh), (1, .int p1)]) hx hb dX5_moveAhead_6 rfl hl (by decide) rfl (fun ls hl => ?_)
  obtain ⟨J7, ⟨n7, h⟩, hz7, hs7⟩ := h
  have hL7 : ∀ (n7 : Nat) (v2_7 : Int32) (leF_7 : Nat → Int32), J7 n7 v2_7 leF_7 → ∀ (H : Heap) (locs : List Loc) (ls : Array Slot), va_P (dC, dI) vwCl [(a_sh, .inr (5, [.int thg, .int req, .ref a_ak, .int ocn, .ref a_os, .ref a_le])), (a_os, .inl (kA, 24, .inl osF)), (a_le, .inl (kA, 256, .inl leF_7))] H → va_D A [(a_sh, .inr (5, [.int thg, .int req, .ref a_ak, .int ocn, .ref a_os, .ref a_le])), (a_os, .inl (kA, 24, .inl osF)), (a_le, .inl (kA, 256, .inl leF_7))] → va_S A s.heap H locs → lv_has ls 5 [(0, .ref a_sh), (1, .int p1), (2, .int v2_7)] → W p l e (headSpec wsX5_moveAhead rmX5_moveAhead).room s m args below meth c H locs 0 0 Q (F0 m 7 ls []) := by
    intro n7
    induction n7 with
    | zero => intro v2_7 leF_7 h; exact absurd h (hz7 v2_7 leF_7)
    | succ n7 ih7 =>
      intro v2_7 leF_7 h H locs ls hP hD hS hl
      replace h := hs7 n7 v2_7 leF_7 h
      refine lv_iload_n hx hb dX5_moveAhead_7 rfl (lv_at hl 2 rfl) ?_
      refine lv_if_le (tgt := 89) hx hb dX5_moveAhead_8 (by decide) (fun c8 => ?_) (fun c8 => ?_)
      · replace h := h.1 c8
        rw [hQ]
        exact rt_v (leF_7) hx hb hr hlocks h hP hD hS dX5_moveAhead_89
      · replace h := h.2 c8
        refine lv_iconst (v := (0 : Int32)) hx hb dX5_moveAhead_11 (by decide +kernel) ?_
        refine lv_istore_n (lv' := [(3, .int (0 : Int32)), (0, .ref a_sh), (1, .int p1), (2, .int v2_7)]) hx hb dX5_moveAhead_12 rfl hl (by decide) rfl (fun ls hl => ?_)
        obtain ⟨J13, ⟨n13, h⟩, hz13, hs13⟩ := h
        have hL13 : ∀ (n13 : Nat) (v3_13 : Int32) (leF_13 : Nat → Int32), J13 n13 v3_13 leF_13 → ∀ (H : Heap) (locs : List Loc) (ls : Array Slot), va_P (dC, dI) vwCl [(a_sh, .inr (5, [.int thg, .int req, .ref a_ak, .int ocn, .ref a_os, .ref a_le])), (a_os, .inl (kA, 24, .inl osF)), (a_le, .inl (kA, 256, .inl leF_13))] H → va_D A [(a_sh, .inr (5, [.int thg, .int req, .ref a_ak, .int ocn, .ref a_os, .ref a_le])), (a_os, .inl (kA, 24, .inl osF)), (a_le, .inl (kA, 256, .inl leF_13))] → va_S A s.heap H locs → lv_has ls 5 [(0, .ref a_sh), (1, .int p1), (2, .int v2_7), (3, .int v3_13)] → W p l e (headSpec wsX5_moveAhead rmX5_moveAhead).room s m args below meth c H locs 0 0 Q (F0 m 13 ls []) := by
          intro n13
          induction n13 with
          | zero => intro v3_13 leF_13 h; exact absurd h (hz13 v3_13 leF_13)
          | succ n13 ih13 =>
            intro v3_13 leF_13 h H locs ls hP hD hS hl
            replace h := hs13 n13 v3_13 leF_13 h
            refine lv_iload_n hx hb dX5_moveAhead_13 rfl (lv_at hl 3 rfl) ?_
            refine lv_aload_n hx hb dX5_moveAhead_14 rfl (lv_at hl 0 rfl) ?_
            refine va_get (D := (dC, dI)) (ci := 5) (v := .int ocn) (C := RX5) (T := TX5) (N := 6) hx hb hts (fun _ h => List.mem_cons_of_mem _ (List.mem_append_right _ h)) hown hK hP 0 rfl rfl 3 (by decide) (hts (.fieldLink RX5 31 "RentOrBuy$Shelf" "orderCount" "I") (List.mem_cons_of_mem _ (List.mem_append_left _ (List.mem_of_getElem? (i := 1) rfl)))) (fun _ h9 => h9) rfl dX5_moveAhead_15 ?_
            refine lv_icmp_ge (tgt := 83) hx hb dX5_moveAhead_18 (by decide) (fun c18 => ?_) (fun c18 => ?_)
            · replace h := h.1 c18
              refine lv_iinc (v := (v2_7 + (-1 : Int32))) (lv' := [(2, .int (v2_7 + (-1 : Int32))), (0, .ref a_sh), (1, .int p1), (3, .int v3_13)]) hx hb dX5_moveAhead_83 hl (k := 2) rfl (by rfl) (by decide) rfl (fun ls hl => ?_)
              refine lv_goto (tgt := 7) hx hb dX5_moveAhead_86 (by decide) ?_
              exact ih7 (v2_7 + (-1 : Int32)) leF_13 h _ _ _ hP hD hS (lv_sub hl [1, 2, 0] rfl)
            · replace h := h.2 c18
              refine lv_aload_n hx hb dX5_moveAhead_21 rfl (lv_at hl 0 rfl) ?_
              refine va_get (D := (dC, dI)) (ci := 5) (v := .ref a_os) (C := RX5) (T := TX5) (N := 6) hx hb hts (fun _ h => List.mem_cons_of_mem _ (List.mem_append_right _ h)) hown hK hP 0 rfl rfl 4 (by decide) (hts (.fieldLink RX5 15 "RentOrBuy$Shelf" "orders" "[I") (List.mem_cons_of_mem _ (List.mem_append_left _ (List.mem_of_getElem? (i := 2) rfl)))) (fun _ h9 => h9) rfl dX5_moveAhead_22 ?_
              refine lv_iload_n hx hb dX5_moveAhead_25 rfl (lv_at hl 3 rfl) ?_
              obtain ⟨hi26, h⟩ := h
              refine va_iald hx hb hK hP 1 0 rfl rfl hi26 dX5_moveAhead_26 ?_
              refine lv_iload_n hx hb dX5_moveAhead_27 rfl (lv_at hl 2 rfl) ?_
              have hPc := hP.sub (ws' := []) [] rfl
              have hDc := hD.sub (ws' := []) [] (by decide) rfl
              refine fr_i (wr := [(a_sh, .inr (5, [.int thg, .int req, .ref a_ak, .int ocn, .ref a_os, .ref a_le])), (a_os, .inl (kA, 24, .inl osF)), (a_le, .inl (kA, 256, .inl leF_13))]) (WN := fun (u28 : Unit) => [(a_sh, .inr (5, [.int thg, .int req, .ref a_ak, .int ocn, .ref a_os, .ref a_le])), (a_os, .inl (kA, 24, .inl osF)), (a_le, .inl (kA, 256, .inl leF_13))]) (va_runS (As := [.int (osF v3_13.toNatClampNeg), .int v2_7]) (rest := []) ⟨hx, hb, hml, hown, hts⟩ (c_X5_thingAt l dC dI kA H.size (osF v3_13.toNatClampNeg) v2_7 _ h) (va_cwS 2 hts gX5_moveAhead_X5_thingAt rfl rfl rfl (by decide +kernel) ⟨Nat.le_of_ble_eq_true rfl, Nat.le_of_ble_eq_true rfl⟩) (prW.preS hPc hDc hK hN) rfl rfl hl.1 rfl (lv_room (Nat.le_of_ble_eq_true rfl)) dX5_moveAhead_28 ⟨Nat.le_of_ble_eq_true rfl, Nat.le_of_ble_eq_true rfl⟩) hP hD hS hA [] [0, 1, 2] rfl rfl (by decide) (by decide) [0, 1, 2] (by decide) (fun _ => rfl) (fun r28 u28 H locs h hP hD hS => ?_)
              have hP : va_P (dC, dI) vwCl [(a_sh, .inr (5, [.int thg, .int req, .ref a_ak, .int ocn, .ref a_os, .ref a_le])), (a_os, .inl (kA, 24, .inl osF)), (a_le, .inl (kA, 256, .inl leF_13))] H := hP
              have hD : va_D A [(a_sh, .inr (5, [.int thg, .int req, .ref a_ak, .int ocn, .ref a_os, .ref a_le])), (a_os, .inl (kA, 24, .inl osF)), (a_le, .inl (kA, 256, .inl leF_13))] := hD
              refine lv_iload_n hx hb dX5_moveAhead_31 rfl (lv_at hl 1 rfl) ?_
              obtain ⟨J77, hR77, h⟩ := h
              have hJ77 : ∀ (leF_77 : Nat → Int32), J77 leF_77 → ∀ (H : Heap) (locs : List Loc) (ls : Array Slot), va_P (dC, dI) vwCl [(a_sh, .inr (5, [.int thg, .int req, .ref a_ak, .int ocn, .ref a_os, .ref a_le])), (a_os, .inl (kA, 24, .inl osF)), (a_le, .inl (kA, 256, .inl leF_77))] H → va_D A [(a_sh, .inr (5, [.int thg, .int req, .ref a_ak, .int ocn, .ref a_os, .ref a_le])), (a_os, .inl (kA, 24, .inl osF)), (a_le, .inl (kA, 256, .inl leF_77))] → va_S A s.heap H locs → lv_has ls 5 [(0, .ref a_sh), (1, .int p1), (2, .int v2_7), (3, .int v3_13)] → W p l e (headSpec wsX5_moveAhead rmX5_moveAhead).room s m args below meth c H locs 0 0 Q (F0 m 77 ls []) := by
                intro leF_77 h H locs ls hP hD hS hl
                replace h := hR77 leF_77 h
                refine lv_iinc (v := (v3_13 + (1 : Int32))) (lv' := [(3, .int (v3_13 + (1 : Int32))), (0, .ref a_sh), (1, .int p1), (2, .int v2_7)]) hx hb dX5_moveAhead_77 hl (k := 3) rfl (by rfl) (by decide) rfl (fun ls hl => ?_)
                refine lv_goto (tgt := 13) hx hb dX5_moveAhead_80 (by decide) ?_
                exact ih13 (v3_13 + (1 : Int32)) leF_77 h _ _ _ hP hD hS (lv_sub hl [1, 2, 3, 0] rfl)
              refine lv_icmp_ne (tgt := 77) hx hb dX5_moveAhead_32 (by decide) (fun c32 => ?_) (fun c32 => ?_)
              · replace h := h.1 c32
                exact hJ77 leF_13 h _ _ _ hP hD hS (lv_sub hl [0, 1, 2, 3] rfl)
              · replace h := h.2 c32
                refine lv_aload_n hx hb dX5_moveAhead_35 rfl (lv_at hl 0 rfl) ?_
                refine va_get (D := (dC, dI)) (ci := 5) (v := .ref a_os) (C := RX5) (T := TX5) (N := 6) hx hb hts (fun _ h => List.mem_cons_of_mem _ (List.mem_append_right _ h)) hown hK hP 0 rfl rfl 4 (by decide) (hts (.fieldLink RX5 15 "RentOrBuy$Shelf" "orders" "[I") (List.mem_cons_of_mem _ (List.mem_append_left _ (List.mem_of_getElem? (i := 2) rfl)))) (fun _ h9 => h9) rfl dX5_moveAhead_36 ?_
                refine lv_iload_n hx hb dX5_moveAhead_39 rfl (lv_at hl 3 rfl) ?_
                obtain ⟨hi40, h⟩ := h
                refine va_iald hx hb hK hP 1 0 rfl rfl hi40 dX5_moveAhead_40 ?_
                refine lv_iload_n hx hb dX5_moveAhead_41 rfl (lv_at hl 2 rfl) ?_
                refine lv_iconst (v := (1 : Int32)) hx hb dX5_moveAhead_42 (by decide +kernel) ?_
                refine lv_isub hx hb dX5_moveAhead_43 ?_
                have hPc := hP.sub (ws' := []) [] rfl
                have hDc := hD.sub (ws' := []) [] (by decide) rfl
                refine fr_i (wr := [(a_sh, .inr (5, [.int thg, .int req, .ref a_ak, .int ocn, .ref a_os, .ref a_le])), (a_os, .inl (kA, 24, .inl osF)), (a_le, .inl (kA, 256, .inl leF_13))]) (WN := fun (u44 : Unit) => [(a_sh, .inr (5, [.int thg, .int req, .ref a_ak, .int ocn, .ref a_os, .ref a_le])), (a_os, .inl (kA, 24, .inl osF)), (a_le, .inl (kA, 256, .inl leF_13))]) (va_runS (As := [.int (osF v3_13.toNatClampNeg), .int (v2_7 - (1 : Int32))]) (rest := []) ⟨hx, hb, hml, hown, hts⟩ (c_X5_exchanged l dC dI kA H.size (osF v3_13.toNatClampNeg) (v2_7 - (1 : Int32)) _ h) (va_cwS 2 hts gX5_moveAhead_X5_exchanged rfl rfl rfl (by decide +kernel) ⟨Nat.le_of_ble_eq_true rfl, Nat.le_of_ble_eq_true rfl⟩) (prW.preS hPc hDc hK hN) rfl rfl hl.1 rfl (lv_room (Nat.le_of_ble_eq_true rfl)) dX5_moveAhead_44 ⟨Nat.le_of_ble_eq_true rfl, Nat.le_of_ble_eq_true rfl⟩) hP hD hS hA [] [0, 1, 2] rfl rfl (by decide) (by decide) [0, 1, 2] (by decide) (fun _ => rfl) (fun r44 u44 H locs h hP hD hS => ?_)
                have hP : va_P (dC, dI) vwCl [(a_sh, .inr (5, [.int thg, .int req, .ref a_ak, .int ocn, .ref a_os, .ref a_le])), (a_os, .inl (kA, 24, .inl osF)), (a_le, .inl (kA, 256, .inl leF_13))] H := hP
                have hD : va_D A [(a_sh, .inr (5, [.int thg, .int req, .ref a_ak, .int ocn, .ref a_os, .ref a_le])), (a_os, .inl (kA, 24, .inl osF)), (a_le, .inl (kA, 256, .inl leF_13))] := hD
                refine lv_istore (lv' := [(4, .int r44), (0, .ref a_sh), (1, .int p1), (2, .int v2_7), (3, .int v3_13)]) hx hb dX5_moveAhead_47 hl (by decide) rfl (fun ls hl => ?_)
                refine lv_aload_n hx hb dX5_moveAhead_49 rfl (lv_at hl 1 rfl) ?_
                refine va_get (D := (dC, dI)) (ci := 5) (v := .ref a_le) (C := RX5) (T := TX5) (N := 6) hx hb hts (fun _ h => List.mem_cons_of_mem _ (List.mem_append_right _ h)) hown hK hP 0 rfl rfl 5 (by decide) (hts (.fieldLink RX5 18 "RentOrBuy$Shelf" "least" "[I") (List.mem_cons_of_mem _ (List.mem_append_left _ (List.mem_of_getElem? (i := 3) rfl)))) (fun _ h9 => h9) rfl dX5_moveAhead_50 ?_
                refine lv_iload hx hb dX5_moveAhead_53 (lv_at hl 0 rfl) ?_
                refine lv_aload_n hx hb dX5_moveAhead_55 rfl (lv_at hl 1 rfl) ?_
                refine va_get (D := (dC, dI)) (ci := 5) (v := .ref a_le) (C := RX5) (T := TX5) (N := 6) hx hb hts (fun _ h => List.mem_cons_of_mem _ (List.mem_append_right _ h)) hown hK hP 0 rfl rfl 5 (by decide) (hts (.fieldLink RX5 18 "RentOrBuy$Shelf" "least" "[I") (List.mem_cons_of_mem _ (List.mem_append_left _ (List.mem_of_getElem? (i := 3) rfl)))) (fun _ h9 => h9) rfl dX5_moveAhead_56 ?_
                refine lv_iload hx hb dX5_moveAhead_59 (lv_at hl 0 rfl) ?_
                obtain ⟨hi61, h⟩ := h
                refine va_iald hx hb hK hP 2 0 rfl rfl hi61 dX5_moveAhead_61 ?_
                refine lv_aload_n hx hb dX5_moveAhead_62 rfl (lv_at hl 1 rfl) ?_
                refine va_get (D := (dC, dI)) (ci := 5) (v := .ref a_le) (C := RX5) (T := TX5) (N := 6) hx hb hts (fun _ h => List.mem_cons_of_mem _ (List.mem_append_right _ h)) hown hK hP 0 rfl rfl 5 (by decide) (hts (.fieldLink RX5 18 "RentOrBuy$Shelf" "least" "[I") (List.mem_cons_of_mem _ (List.mem_append_left _ (List.mem_of_getElem? (i := 3) rfl)))) (fun _ h9 => h9) rfl dX5_moveAhead_63 ?_
                refine lv_aload_n hx hb dX5_moveAhead_66 rfl (lv_at hl 1 rfl) ?_
                refine va_get (D := (dC, dI)) (ci := 5) (v := .ref a_os) (C := RX5) (T := TX5) (N := 6) hx hb hts (fun _ h => List.mem_cons_of_mem _ (List.mem_append_right _ h)) hown hK hP 0 rfl rfl 4 (by decide) (hts (.fieldLink RX5 15 "RentOrBuy$Shelf" "orders" "[I") (List.mem_cons_of_mem _ (List.mem_append_left _ (List.mem_of_getElem? (i := 2) rfl)))) (fun _ h9 => h9) rfl dX5_moveAhead_67 ?_
                refine lv_iload_n hx hb dX5_moveAhead_70 rfl (lv_at hl 4 rfl) ?_
                obtain ⟨hi71, h⟩ := h
                refine va_iald hx hb hK hP 1 0 rfl rfl hi71 dX5_moveAhead_71 ?_
                obtain ⟨hi72, h⟩ := h
                refine va_iald hx hb hK hP 2 0 rfl rfl hi72 dX5_moveAhead_72 ?_
                refine va_mmin hx hb (by rw [hml]; exact hl.1.symm) hown (hts (.methodLink RX5 60 Lib.Math.min.name) (List.mem_cons_of_mem _ (List.mem_append_left _ (List.mem_of_getElem? (i := 4) rfl)))) (hts (.static Lib.Math.min.name) (List.mem_cons_of_mem _ (List.mem_append_left _ (List.mem_of_getElem? (i := 5) rfl)))) (hts (.initialized "java/lang/Math") (List.mem_cons_of_mem _ (List.mem_append_left _ (List.mem_of_getElem? (i := 6) rfl)))) (hts (.code Lib.Math.min.name Lib.Math.min.code 2 (some .int)) (List.mem_cons_of_mem _ (List.mem_append_left _ (List.mem_of_getElem? (i := 7) rfl)))) (Nat.le_of_ble_eq_true rfl) (Nat.le_of_ble_eq_true rfl) (Nat.le_of_ble_eq_true rfl) (Nat.le_of_ble_eq_true rfl) dX5_moveAhead_73 ?_
                obtain ⟨hi76, h⟩ := h
                refine va_iast hx hb hK hP hD hS 2 0 rfl rfl hi76 dX5_moveAhead_76 (fun H locs hP hD hS => ?_)
                have hP : va_P (dC, dI) vwCl [(a_sh, .inr (5, [.int thg, .int req, .ref a_ak, .int ocn, .ref a_os, .ref a_le])), (a_os, .inl (kA, 24, .inl osF)), (a_le, .inl (kA, 256, .inl (upd leF_13 r44.toNatClampNeg (if (leF_13 (osF v3_13.toNatClampNeg).toNatClampNeg) < (leF_13 r44.toNatClampNeg) then (leF_13 (osF v3_13.toNatClampNeg).toNatClampNeg) else (leF_13 r44.toNatClampNeg)))))] H := hP
                have hD : va_D A [(a_sh, .inr (5, [.int thg, .int req, .ref a_ak, .int ocn, .ref a_os, .ref a_le])), (a_os, .inl (kA, 24, .inl osF)), (a_le, .inl (kA, 256, .inl (upd leF_13 r44.toNatClampNeg (if (leF_13 (osF v3_13.toNatClampNeg).toNatClampNeg) < (leF_13 r44.toNatClampNeg) then (leF_13 (osF v3_13.toNatClampNeg).toNatClampNeg) else (leF_13 r44.toNatClampNeg)))))] := hD
                exact hJ77 (upd leF_13 r44.toNatClampNeg (if (leF_13 (osF v3_13.toNatClampNeg).toNatClampNeg) < (leF_13 r44.toNatClampNeg) then (leF_13 (osF v3_13.toNatClampNeg).toNatClampNeg) else (leF_13 r44.toNatClampNeg))) h _ _ _ hP hD hS (lv_sub hl [1, 2, 3, 4] rfl)
        exact hL13 n13 (0 : Int32) leF_7 h _ _ _ hP hD hS (lv_sub hl [1, 2, 3, 0] rfl)
  exact hL7 n7 (thg - (1 : Int32)) leF h _ _ _ hP hD hS (lv_sub hl [1, 2, 0] rfl)

/-- RentOrBuy$Shelf.bestCost -/
def rmX5_bestCost : Room := { frames := 4, cells := 0, slots := 0, locals := 90 }
set_option maxHeartbeats 4000000 in
set_option maxRecDepth 100000 in
theorem c_X5_bestCost (l : Launch) (dC : Nat → ClassId) (dI : Nat → Nat → Nat) (kA : ClassId) (a_sh a_ak a_os a_le : Nat) (sz : Nat) (thg : Int32) (req : Int32) (ocn : Int32) (akF : Nat → Int32) (osF : Nat → Int32) (leF : Nat → Int32) (K : Int32 → (Nat → Int32) → Prop) (hg : g_X5_bestCost thg req ocn akF osF leF K) : Met l yX5_bestCost wsX5_bestCost rmX5_bestCost (va_Pc [.ref a_sh] (prW (dC, dI) kA sz [(a_sh, .inr (5, [.int thg, .int req, .ref a_ak, .int ocn, .ref a_os, .ref a_le])), (a_ak, .inl (kA, 16, .inl akF)), (a_os, .inl (kA, 24, .inl osF)), (a_le, .inl (kA, 256, .inl leF))])) (va_Qi (fun (r : Int32) (u : (Nat → Int32)) => K r u) (poW (dC, dI) (va_A [(a_sh, .inr (5, [.int thg, .int req, .ref a_ak, .int ocn, .ref a_os, .ref a_le])), (a_ak, .inl (kA, 16, .inl akF)), (a_os, .inl (kA, 24, .inl osF)), (a_le, .inl (kA, 256, .inl leF))] sz) (fun (u : (Nat → Int32)) => [(a_sh, .inr (5, [.int thg, .int req, .ref a_ak, .int ocn, .ref a_os, .ref a_le])), (a_ak, .inl (kA, 16, .inl akF)), (a_os, .inl (kA, 24, .inl osF)), (a_le, .inl (kA, 256, .inl u))])) (va_A [(a_sh, .inr (5, [.int thg, .int req, .ref a_ak, .int ocn, .ref a_os, .ref a_le])), (a_ak, .inl (kA, 16, .inl akF)), (a_os, .inl (kA, 24, .inl osF)), (a_le, .inl (kA, 256, .inl leF))] sz)) 0 0 (va_A [(a_sh, .inr (5, [.int thg, .int req, .ref a_ak, .int ocn, .ref a_os, .ref a_le])), (a_ak, .inl (kA, 16, .inl akF)), (a_os, .inl (kA, 24, .inl osF)), (a_le, .inl (kA, 256, .inl leF))] sz) := by
  refine Met.ofW (cc := cX5_bestCost) (maxL := 3) (ret := (some .int)) (by decide) rfl ?_
  intro p e s m args below meth c s₁ B hml hv
  obtain ⟨hargs, hsz, hP, hK, hD0, hN⟩ := hv
  have hx := B.exec
  have hb := B.bytes
  have hr := B.returns
  have hts := atoms_spec (ws := wsX5_bestCost) B.pre
  have hown : s.vm.findClass RX5 = some m.cls := findClass_of_methodNamed B.named
  have hlocks := B.notSynchronized
  subst hsz
  have hD := hD0.self (sz := s.heap.size)
  generalize hAe : va_A [(a_sh, .inr (5, [.int thg, .int req, .ref a_ak, .int ocn, .ref a_os, .ref a_le])), (a_ak, .inl (kA, 16, .inl akF)), (a_os, .inl (kA, 24, .inl osF)), (a_le, .inl (kA, 256, .inl leF))] s.heap.size = A at hD ⊢
  have hA : ∀ q : Nat, s.heap.size ≤ q → A q := fun q h => by rw [← hAe]; exact Or.inr h
  have hS : va_S A s.heap s.heap [] := va_S.rf
  obtain ⟨Q, hQ⟩ : ∃ Q : State → Prop, Q = MQ below (va_Qi (fun (r : Int32) (u : (Nat → Int32)) => K r u) (poW (dC, dI) A (fun (u : (Nat → Int32)) => [(a_sh, .inr (5, [.int thg, .int req, .ref a_ak, .int ocn, .ref a_os, .ref a_le])), (a_ak, .inl (kA, 16, .inl akF)), (a_os, .inl (kA, 24, .inl osF)), (a_le, .inl (kA, 256, .inl u))])) A) args s 0 0 A := ⟨_, rfl⟩
  rw [← hQ]
  have hP : va_P (dC, dI) vwCl [(a_sh, .inr (5, [.int thg, .int req, .ref a_ak, .int ocn, .ref a_os, .ref a_le])), (a_ak, .inl (kA, 16, .inl akF)), (a_os, .inl (kA, 24, .inl osF)), (a_le, .inl (kA, 256, .inl leF))] s.heap := hP
  refine en_ok hargs (Nat.le_of_ble_eq_true rfl) (fun ls hl => ?_)
  have hl : lv_has ls 3 [(0, .ref a_sh)] := hl
  have h := hg
  unfold g_X5_bestCost at h
  refine lv_iconst (v := (0 : Int32)) hx hb dX5_bestCost_0 (by decide +kernel) ?_
  refine lv_istore_n (lv' := [(1, .int (0 : Int32)), (0, .ref a_sh)]) hx hb dX5_bestCost_1 rfl hl (by decide) rfl (fun ls hl => ?_)
  obtain ⟨J2, ⟨n2, h⟩, hz2, hs2⟩ := h
  have hL2 : ∀ (n2 : Nat) (v1_2 : Int32) (leF_2 : Nat → Int32), J2 n2 v1_2 leF_2 → ∀ (H : Heap) (locs : List Loc) (ls : Array Slot), va_P (dC, dI) vwCl [(a_sh, .inr (5, [.int thg, .int req, .ref a_ak, .int ocn, .ref a_os, .ref a_le])), (a_ak, .inl (kA, 16, .inl akF)), (a_os, .inl (kA, 24, .inl osF)), (a_le, .inl (kA, 256, .inl leF_2))] H → va_D A [(a_sh, .inr (5, [.int thg, .int req, .ref a_ak, .int ocn, .ref a_os, .ref a_le])), (a_ak, .inl (kA, 16, .inl akF)), (a_os, .inl (kA, 24, .inl osF)), (a_le, .inl (kA, 256, .inl leF_2))] → va_S A s.heap H locs → lv_has ls 3 [(0, .ref a_sh), (1, .int v1_2)] → W p l e (headSpec wsX5_bestCost rmX5_bestCost).room s m args below meth c H locs 0 0 Q (F0 m 2 ls []) := by
    intro n2
    induction n2 with
    | zero => intro v1_2 leF_2 h; exact absurd h (hz2 v1_2 leF_2)
    | succ n2 ih2 =>
      intro v1_2 leF_2 h H locs ls hP hD hS hl
      replace h := hs2 n2 v1_2 leF_2 h
      refine lv_iload_n hx hb dX5_bestCost_2 rfl (lv_at hl 1 rfl) ?_
      refine lv_aload_n hx hb dX5_bestCost_3 rfl (lv_at hl 0 rfl) ?_
      refine va_get (D := (dC, dI)) (ci := 5) (v := .int ocn) (C := RX5) (T := TX5) (N := 6) hx hb hts (fun _ h => List.mem_cons_of_mem _ (List.mem_append_right _ h)) hown hK hP 0 rfl rfl 3 (by decide) (hts (.fieldLink RX5 31 "RentOrBuy$Shelf" "orderCount" "I") (List.mem_cons_of_mem _ (List.mem_append_left _ (List.mem_of_getElem? (i := 0) rfl)))) (fun _ h9 => h9) rfl dX5_bestCost_4 ?_
      refine lv_icmp_ge (tgt := 29) hx hb dX5_bestCost_7 (by decide) (fun c7 => ?_) (fun c7 => ?_)
      · replace h := h.1 c7
        refine lv_aload_n hx hb dX5_bestCost_29 rfl (lv_at hl 0 rfl) ?_
        refine va_get (D := (dC, dI)) (ci := 5) (v := .ref a_le) (C := RX5) (T := TX5) (N := 6) hx hb hts (fun _ h => List.mem_cons_of_mem _ (List.mem_append_right _ h)) hown hK hP 0 rfl rfl 5 (by decide) (hts (.fieldLink RX5 18 "RentOrBuy$Shelf" "least" "[I") (List.mem_cons_of_mem _ (List.mem_append_left _ (List.mem_of_getElem? (i := 1) rfl)))) (fun _ h9 => h9) rfl dX5_bestCost_30 ?_
        refine lv_aload_n hx hb dX5_bestCost_33 rfl (lv_at hl 0 rfl) ?_
        have hPc := hP.sub (ws' := [(a_sh, .inr (5, [.int thg, .int req, .ref a_ak, .int ocn, .ref a_os, .ref a_le]))]) [0] rfl
        have hDc := hD.sub (ws' := [(a_sh, .inr (5, [.int thg, .int req, .ref a_ak, .int ocn, .ref a_os, .ref a_le]))]) [0] (by decide) rfl
        refine fr_i (wr := [(a_ak, .inl (kA, 16, .inl akF)), (a_os, .inl (kA, 24, .inl osF)), (a_le, .inl (kA, 256, .inl leF_2))]) (WN := fun (u34 : Unit) => [(a_sh, .inr (5, [.int thg, .int req, .ref a_ak, .int ocn, .ref a_os, .ref a_le])), (a_ak, .inl (kA, 16, .inl akF)), (a_os, .inl (kA, 24, .inl osF)), (a_le, .inl (kA, 256, .inl leF_2))]) (va_runV (As := []) (rest := [.ref a_le]) ⟨hx, hb, hml, hown, hts⟩ (c_X5_firstOrder l dC dI kA a_sh a_ak a_os a_le H.size thg req ocn _ h) (cwV 0 hts gX5_bestCost_X5_firstOrder rfl rfl rfl (by decide +kernel) ⟨Nat.le_of_ble_eq_true rfl, Nat.le_of_ble_eq_true rfl⟩) (prW.preV (ci := 5) (q0 := 0) hPc hDc hK hN rfl rfl) rfl rfl hl.1 rfl (lv_room (Nat.le_of_ble_eq_true rfl)) dX5_bestCost_34 ⟨Nat.le_of_ble_eq_true rfl, Nat.le_of_ble_eq_true rfl⟩) hP hD hS hA [0] [1, 2, 3] rfl rfl (by decide) (by decide) [3, 0, 1, 2] (by decide) (fun _ => rfl) (fun r34 u34 H locs h hP hD hS => ?_)
        have hP : va_P (dC, dI) vwCl [(a_sh, .inr (5, [.int thg, .int req, .ref a_ak, .int ocn, .ref a_os, .ref a_le])), (a_ak, .inl (kA, 16, .inl akF)), (a_os, .inl (kA, 24, .inl osF)), (a_le, .inl (kA, 256, .inl leF_2))] H := hP
        have hD : va_D A [(a_sh, .inr (5, [.int thg, .int req, .ref a_ak, .int ocn, .ref a_os, .ref a_le])), (a_ak, .inl (kA, 16, .inl akF)), (a_os, .inl (kA, 24, .inl osF)), (a_le, .inl (kA, 256, .inl leF_2))] := hD
        refine lv_iconst (v := (0 : Int32)) hx hb dX5_bestCost_37 (by decide +kernel) ?_
        obtain ⟨hi38, h⟩ := h
        refine va_iast hx hb hK hP hD hS 3 0 rfl rfl hi38 dX5_bestCost_38 (fun H locs hP hD hS => ?_)
        have hP : va_P (dC, dI) vwCl [(a_sh, .inr (5, [.int thg, .int req, .ref a_ak, .int ocn, .ref a_os, .ref a_le])), (a_ak, .inl (kA, 16, .inl akF)), (a_os, .inl (kA, 24, .inl osF)), (a_le, .inl (kA, 256, .inl (upd leF_2 r34.toNatClampNeg (0 : Int32))))] H := hP
        have hD : va_D A [(a_sh, .inr (5, [.int thg, .int req, .ref a_ak, .int ocn, .ref a_os, .ref a_le])), (a_ak, .inl (kA, 16, .inl akF)), (a_os, .inl (kA, 24, .inl osF)), (a_le, .inl (kA, 256, .inl (upd leF_2 r34.toNatClampNeg (0 : Int32))))] := hD
        refine lv_iconst (v := (0 : Int32)) hx hb dX5_bestCost_39 (by decide +kernel) ?_
        refine lv_istore_n (lv' := [(1, .int (0 : Int32)), (0, .ref a_sh)]) hx hb dX5_bestCost_40 rfl hl (by decide) rfl (fun ls hl => ?_)
        obtain ⟨J41, ⟨n41, h⟩, hz41, hs41⟩ := h
        have hL41 : ∀ (n41 : Nat) (v1_41 : Int32) (leF_41 : Nat → Int32), J41 n41 v1_41 leF_41 → ∀ (H : Heap) (locs : List Loc) (ls : Array Slot), va_P (dC, dI) vwCl [(a_sh, .inr (5, [.int thg, .int req, .ref a_ak, .int ocn, .ref a_os, .ref a_le])), (a_ak, .inl (kA, 16, .inl akF)), (a_os, .inl (kA, 24, .inl osF)), (a_le, .inl (kA, 256, .inl leF_41))] H → va_D A [(a_sh, .inr (5, [.int thg, .int req, .ref a_ak, .int ocn, .ref a_os, .ref a_le])), (a_ak, .inl (kA, 16, .inl akF)), (a_os, .inl (kA, 24, .inl osF)), (a_le, .inl (kA, 256, .inl leF_41))] → va_S A s.heap H locs → lv_has ls 3 [(0, .ref a_sh), (1, .int v1_41)] → W p l e (headSpec wsX5_bestCost rmX5_bestCost).room s m args below meth c H locs 0 0 Q (F0 m 41 ls []) := by
          intro n41
          induction n41 with
          | zero => intro v1_41 leF_41 h; exact absurd h (hz41 v1_41 leF_41)
          | succ n41 ih41 =>
            intro v1_41 leF_41 h H locs ls hP hD hS hl
            replace h := hs41 n41 v1_41 leF_41 h
            refine lv_iload_n hx hb dX5_bestCost_41 rfl (lv_at hl 1 rfl) ?_
            refine lv_aload_n hx hb dX5_bestCost_42 rfl (lv_at hl 0 rfl) ?_
            refine va_get (D := (dC, dI)) (ci := 5) (v := .int req) (C := RX5) (T := TX5) (N := 6) hx hb hts (fun _ h => List.mem_cons_of_mem _ (List.mem_append_right _ h)) hown hK hP 0 rfl rfl 1 (by decide) (hts (.fieldLink RX5 25 "RentOrBuy$Shelf" "requests" "I") (List.mem_cons_of_mem _ (List.mem_append_left _ (List.mem_of_getElem? (i := 4) rfl)))) (fun _ h9 => h9) rfl dX5_bestCost_43 ?_
            refine lv_icmp_ge (tgt := 79) hx hb dX5_bestCost_46 (by decide) (fun c46 => ?_) (fun c46 => ?_)
            · replace h := h.1 c46
              refine lv_ldc (v := (1000000 : Int32)) hx hb hown (hts (.constant RX5 55 (1000000)) (List.mem_cons_of_mem _ (List.mem_append_left _ (List.mem_of_getElem? (i := 3) rfl)))) dX5_bestCost_79 ?_
              refine lv_istore_n (lv' := [(1, .int (1000000 : Int32)), (0, .ref a_sh)]) hx hb dX5_bestCost_81 rfl hl (by decide) rfl (fun ls hl => ?_)
              refine lv_iconst (v := (0 : Int32)) hx hb dX5_bestCost_82 (by decide +kernel) ?_
              refine lv_istore_n (lv' := [(2, .int (0 : Int32)), (1, .int (1000000 : Int32)), (0, .ref a_sh)]) hx hb dX5_bestCost_83 rfl hl (by decide) rfl (fun ls hl => ?_)
              obtain ⟨J84, ⟨n84, h⟩, hz84, hs84⟩ := h
              have hL84 : ∀ (n84 : Nat) (v1_84 : Int32) (v2_84 : Int32), J84 n84 v1_84 v2_84 → ∀ (H : Heap) (locs : List Loc) (ls : Array Slot), va_P (dC, dI) vwCl [(a_sh, .inr (5, [.int thg, .int req, .ref a_ak, .int ocn, .ref a_os, .ref a_le])), (a_ak, .inl (kA, 16, .inl akF)), (a_os, .inl (kA, 24, .inl osF)), (a_le, .inl (kA, 256, .inl leF_41))] H → va_D A [(a_sh, .inr (5, [.int thg, .int req, .ref a_ak, .int ocn, .ref a_os, .ref a_le])), (a_ak, .inl (kA, 16, .inl akF)), (a_os, .inl (kA, 24, .inl osF)), (a_le, .inl (kA, 256, .inl leF_41))] → va_S A s.heap H locs → lv_has ls 3 [(0, .ref a_sh), (1, .int v1_84), (2, .int v2_84)] → W p l e (headSpec wsX5_bestCost rmX5_bestCost).room s m args below meth c H locs 0 0 Q (F0 m 84 ls []) := by
                intro n84
                induction n84 with
                | zero => intro v1_84 v2_84 h; exact absurd h (hz84 v1_84 v2_84)
                | succ n84 ih84 =>
                  intro v1_84 v2_84 h H locs ls hP hD hS hl
                  replace h := hs84 n84 v1_84 v2_84 h
                  refine lv_iload_n hx hb dX5_bestCost_84 rfl (lv_at hl 2 rfl) ?_
                  refine lv_aload_n hx hb dX5_bestCost_85 rfl (lv_at hl 0 rfl) ?_
                  refine va_get (D := (dC, dI)) (ci := 5) (v := .int ocn) (C := RX5) (T := TX5) (N := 6) hx hb hts (fun _ h => List.mem_cons_of_mem _ (List.mem_append_right _ h)) hown hK hP 0 rfl rfl 3 (by decide) (hts (.fieldLink RX5 31 "RentOrBuy$Shelf" "orderCount" "I") (List.mem_cons_of_mem _ (List.mem_append_left _ (List.mem_of_getElem? (i := 0) rfl)))) (fun _ h9 => h9) rfl dX5_bestCost_86 ?_
                  refine lv_icmp_ge (tgt := 114) hx hb dX5_bestCost_89 (by decide) (fun c89 => ?_) (fun c89 => ?_)
                  · replace h := h.1 c89
                    refine lv_iload_n hx hb dX5_bestCost_114 rfl (lv_at hl 1 rfl) ?_
                    rw [hQ]
                    exact rt_i (leF_41) hx hb hr hlocks h hP hD hS dX5_bestCost_115
                  · replace h := h.2 c89
                    refine lv_iload_n hx hb dX5_bestCost_92 rfl (lv_at hl 1 rfl) ?_
                    refine lv_aload_n hx hb dX5_bestCost_93 rfl (lv_at hl 0 rfl) ?_
                    refine va_get (D := (dC, dI)) (ci := 5) (v := .ref a_le) (C := RX5) (T := TX5) (N := 6) hx hb hts (fun _ h => List.mem_cons_of_mem _ (List.mem_append_right _ h)) hown hK hP 0 rfl rfl 5 (by decide) (hts (.fieldLink RX5 18 "RentOrBuy$Shelf" "least" "[I") (List.mem_cons_of_mem _ (List.mem_append_left _ (List.mem_of_getElem? (i := 1) rfl)))) (fun _ h9 => h9) rfl dX5_bestCost_94 ?_
                    refine lv_aload_n hx hb dX5_bestCost_97 rfl (lv_at hl 0 rfl) ?_
                    refine va_get (D := (dC, dI)) (ci := 5) (v := .ref a_os) (C := RX5) (T := TX5) (N := 6) hx hb hts (fun _ h => List.mem_cons_of_mem _ (List.mem_append_right _ h)) hown hK hP 0 rfl rfl 4 (by decide) (hts (.fieldLink RX5 15 "RentOrBuy$Shelf" "orders" "[I") (List.mem_cons_of_mem _ (List.mem_append_left _ (List.mem_of_getElem? (i := 2) rfl)))) (fun _ h9 => h9) rfl dX5_bestCost_98 ?_
                    refine lv_iload_n hx hb dX5_bestCost_101 rfl (lv_at hl 2 rfl) ?_
                    obtain ⟨hi102, h⟩ := h
                    refine va_iald hx hb hK hP 2 0 rfl rfl hi102 dX5_bestCost_102 ?_
                    obtain ⟨hi103, h⟩ := h
                    refine va_iald hx hb hK hP 3 0 rfl rfl hi103 dX5_bestCost_103 ?_
                    refine va_mmin hx hb (by rw [hml]; exact hl.1.symm) hown (hts (.methodLink RX5 60 Lib.Math.min.name) (List.mem_cons_of_mem _ (List.mem_append_left _ (List.mem_of_getElem? (i := 6) rfl)))) (hts (.static Lib.Math.min.name) (List.mem_cons_of_mem _ (List.mem_append_left _ (List.mem_of_getElem? (i := 7) rfl)))) (hts (.initialized "java/lang/Math") (List.mem_cons_of_mem _ (List.mem_append_left _ (List.mem_of_getElem? (i := 8) rfl)))) (hts (.code Lib.Math.min.name Lib.Math.min.code 2 (some .int)) (List.mem_cons_of_mem _ (List.mem_append_left _ (List.mem_of_getElem? (i := 9) rfl)))) (Nat.le_of_ble_eq_true rfl) (Nat.le_of_ble_eq_true rfl) (Nat.le_of_ble_eq_true rfl) (Nat.le_of_ble_eq_true rfl) dX5_bestCost_104 ?_
                    refine lv_istore_n (lv' := [(1, .int (if (leF_41 (osF v2_84.toNatClampNeg).toNatClampNeg) < v1_84 then (leF_41 (osF v2_84.toNatClampNeg).toNatClampNeg) else v1_84)), (0, .ref a_sh), (2, .int v2_84)]) hx hb dX5_bestCost_107 rfl hl (by decide) rfl (fun ls hl => ?_)
                    refine lv_iinc (v := (v2_84 + (1 : Int32))) (lv' := [(2, .int (v2_84 + (1 : Int32))), (1, .int (if (leF_41 (osF v2_84.toNatClampNeg).toNatClampNeg) < v1_84 then (leF_41 (osF v2_84.toNatClampNeg).toNatClampNeg) else v1_84)), (0, .ref a_sh)]) hx hb dX5_bestCost_108 hl (k := 2) rfl (by rfl) (by decide) rfl (fun ls hl => ?_)
                    refine lv_goto (tgt := 84) hx hb dX5_bestCost_111 (by decide) ?_
                    exact ih84 (if (leF_41 (osF v2_84.toNatClampNeg).toNatClampNeg) < v1_84 then (leF_41 (osF v2_84.toNatClampNeg).toNatClampNeg) else v1_84) (v2_84 + (1 : Int32)) h _ _ _ hP hD hS (lv_sub hl [2, 1, 0] rfl)
              exact hL84 n84 (1000000 : Int32) (0 : Int32) h _ _ _ hP hD hS (lv_sub hl [2, 1, 0] rfl)
            · replace h := h.2 c46
              refine lv_aload_n hx hb dX5_bestCost_49 rfl (lv_at hl 0 rfl) ?_
              have hPc := hP.sub (ws' := [(a_sh, .inr (5, [.int thg, .int req, .ref a_ak, .int ocn, .ref a_os, .ref a_le])), (a_os, .inl (kA, 24, .inl osF)), (a_le, .inl (kA, 256, .inl leF_41))]) [0, 2, 3] rfl
              have hDc := hD.sub (ws' := [(a_sh, .inr (5, [.int thg, .int req, .ref a_ak, .int ocn, .ref a_os, .ref a_le])), (a_os, .inl (kA, 24, .inl osF)), (a_le, .inl (kA, 256, .inl leF_41))]) [0, 2, 3] (by decide) rfl
              refine fr_v (wr := [(a_ak, .inl (kA, 16, .inl akF))]) (WN := fun (u50 : (Nat → Int32)) => [(a_sh, .inr (5, [.int thg, .int req, .ref a_ak, .int ocn, .ref a_os, .ref a_le])), (a_ak, .inl (kA, 16, .inl akF)), (a_os, .inl (kA, 24, .inl osF)), (a_le, .inl (kA, 256, .inl u50))]) (va_runV (As := []) (rest := []) ⟨hx, hb, hml, hown, hts⟩ (c_X5_exchangeNeighbours l dC dI kA a_sh a_os a_le a_ak H.size thg req ocn osF leF_41 _ h) (cwV 0 hts gX5_bestCost_X5_exchangeNeighbours rfl rfl rfl (by decide +kernel) ⟨Nat.le_of_ble_eq_true rfl, Nat.le_of_ble_eq_true rfl⟩) (prW.preV (ci := 5) (q0 := 0) hPc hDc hK hN rfl rfl) rfl rfl hl.1 rfl (lv_room (Nat.le_of_ble_eq_true rfl)) dX5_bestCost_50 ⟨Nat.le_of_ble_eq_true rfl, Nat.le_of_ble_eq_true rfl⟩) hP hD hS hA [0, 2, 3] [1] rfl rfl (by decide) (by decide) [1, 0, 2, 3] (by decide) (fun _ => rfl) (fun u50 H locs h hP hD hS => ?_)
              obtain ⟨y50_leF', rfl⟩ : ∃ z, z = u50 := ⟨_, rfl⟩
              have hP : va_P (dC, dI) vwCl [(a_sh, .inr (5, [.int thg, .int req, .ref a_ak, .int ocn, .ref a_os, .ref a_le])), (a_ak, .inl (kA, 16, .inl akF)), (a_os, .inl (kA, 24, .inl osF)), (a_le, .inl (kA, 256, .inl y50_leF'))] H := hP
              have hD : va_D A [(a_sh, .inr (5, [.int thg, .int req, .ref a_ak, .int ocn, .ref a_os, .ref a_le])), (a_ak, .inl (kA, 16, .inl akF)), (a_os, .inl (kA, 24, .inl osF)), (a_le, .inl (kA, 256, .inl y50_leF'))] := hD
              refine lv_aload_n hx hb dX5_bestCost_53 rfl (lv_at hl 0 rfl) ?_
              refine lv_aload_n hx hb dX5_bestCost_54 rfl (lv_at hl 0 rfl) ?_
              refine va_get (D := (dC, dI)) (ci := 5) (v := .ref a_ak) (C := RX5) (T := TX5) (N := 6) hx hb hts (fun _ h => List.mem_cons_of_mem _ (List.mem_append_right _ h)) hown hK hP 0 rfl rfl 2 (by decide) (hts (.fieldLink RX5 9 "RentOrBuy$Shelf" "asked" "[I") (List.mem_cons_of_mem _ (List.mem_append_left _ (List.mem_of_getElem? (i := 5) rfl)))) (fun _ h9 => h9) rfl dX5_bestCost_55 ?_
              refine lv_iload_n hx hb dX5_bestCost_58 rfl (lv_at hl 1 rfl) ?_
              obtain ⟨hi59, h⟩ := h
              refine va_iald hx hb hK hP 1 0 rfl rfl hi59 dX5_bestCost_59 ?_
              have hPc := hP.sub (ws' := [(a_sh, .inr (5, [.int thg, .int req, .ref a_ak, .int ocn, .ref a_os, .ref a_le])), (a_os, .inl (kA, 24, .inl osF)), (a_le, .inl (kA, 256, .inl y50_leF'))]) [0, 2, 3] rfl
              have hDc := hD.sub (ws' := [(a_sh, .inr (5, [.int thg, .int req, .ref a_ak, .int ocn, .ref a_os, .ref a_le])), (a_os, .inl (kA, 24, .inl osF)), (a_le, .inl (kA, 256, .inl y50_leF'))]) [0, 2, 3] (by decide) rfl
              refine fr_v (wr := [(a_ak, .inl (kA, 16, .inl akF))]) (WN := fun (u60 : (Nat → Int32)) => [(a_sh, .inr (5, [.int thg, .int req, .ref a_ak, .int ocn, .ref a_os, .ref a_le])), (a_ak, .inl (kA, 16, .inl akF)), (a_os, .inl (kA, 24, .inl osF)), (a_le, .inl (kA, 256, .inl u60))]) (va_runV (As := [.int (akF v1_41.toNatClampNeg)]) (rest := []) ⟨hx, hb, hml, hown, hts⟩ (c_X5_payPlaces l dC dI kA a_sh a_os a_le a_ak H.size thg req ocn osF y50_leF' (akF v1_41.toNatClampNeg) _ h) (cwV 1 hts gX5_bestCost_X5_payPlaces rfl rfl rfl (by decide +kernel) ⟨Nat.le_of_ble_eq_true rfl, Nat.le_of_ble_eq_true rfl⟩) (prW.preV (ci := 5) (q0 := 0) hPc hDc hK hN rfl rfl) rfl rfl hl.1 rfl (lv_room (Nat.le_of_ble_eq_true rfl)) dX5_bestCost_60 ⟨Nat.le_of_ble_eq_true rfl, Nat.le_of_ble_eq_true rfl⟩) hP hD hS hA [0, 2, 3] [1] rfl rfl (by decide) (by decide) [1, 0, 2, 3] (by decide) (fun _ => rfl) (fun u60 H locs h hP hD hS => ?_)
              obtain ⟨y60_leF', rfl⟩ : ∃ z, z = u60 := ⟨_, rfl⟩
              have hP : va_P (dC, dI) vwCl [(a_sh, .inr (5, [.int thg, .int req, .ref a_ak, .int ocn, .ref a_os, .ref a_le])), (a_ak, .inl (kA, 16, .inl akF)), (a_os, .inl (kA, 24, .inl osF)), (a_le, .inl (kA, 256, .inl y60_leF'))] H := hP
              have hD : va_D A [(a_sh, .inr (5, [.int thg, .int req, .ref a_ak, .int ocn, .ref a_os, .ref a_le])), (a_ak, .inl (kA, 16, .inl akF)), (a_os, .inl (kA, 24, .inl osF)), (a_le, .inl (kA, 256, .inl y60_leF'))] := hD
              refine lv_aload_n hx hb dX5_bestCost_63 rfl (lv_at hl 0 rfl) ?_
              refine lv_aload_n hx hb dX5_bestCost_64 rfl (lv_at hl 0 rfl) ?_
              refine va_get (D := (dC, dI)) (ci := 5) (v := .ref a_ak) (C := RX5) (T := TX5) (N := 6) hx hb hts (fun _ h => List.mem_cons_of_mem _ (List.mem_append_right _ h)) hown hK hP 0 rfl rfl 2 (by decide) (hts (.fieldLink RX5 9 "RentOrBuy$Shelf" "asked" "[I") (List.mem_cons_of_mem _ (List.mem_append_left _ (List.mem_of_getElem? (i := 5) rfl)))) (fun _ h9 => h9) rfl dX5_bestCost_65 ?_
              refine lv_iload_n hx hb dX5_bestCost_68 rfl (lv_at hl 1 rfl) ?_
              obtain ⟨hi69, h⟩ := h
              refine va_iald hx hb hK hP 1 0 rfl rfl hi69 dX5_bestCost_69 ?_
              have hPc := hP.sub (ws' := [(a_sh, .inr (5, [.int thg, .int req, .ref a_ak, .int ocn, .ref a_os, .ref a_le])), (a_os, .inl (kA, 24, .inl osF)), (a_le, .inl (kA, 256, .inl y60_leF'))]) [0, 2, 3] rfl
              have hDc := hD.sub (ws' := [(a_sh, .inr (5, [.int thg, .int req, .ref a_ak, .int ocn, .ref a_os, .ref a_le])), (a_os, .inl (kA, 24, .inl osF)), (a_le, .inl (kA, 256, .inl y60_leF'))]) [0, 2, 3] (by decide) rfl
              refine fr_v (wr := [(a_ak, .inl (kA, 16, .inl akF))]) (WN := fun (u70 : (Nat → Int32)) => [(a_sh, .inr (5, [.int thg, .int req, .ref a_ak, .int ocn, .ref a_os, .ref a_le])), (a_ak, .inl (kA, 16, .inl akF)), (a_os, .inl (kA, 24, .inl osF)), (a_le, .inl (kA, 256, .inl u70))]) (va_runV (As := [.int (akF v1_41.toNatClampNeg)]) (rest := []) ⟨hx, hb, hml, hown, hts⟩ (c_X5_moveAhead l dC dI kA a_sh a_os a_le a_ak H.size thg req ocn osF y60_leF' (akF v1_41.toNatClampNeg) _ h) (cwV 1 hts gX5_bestCost_X5_moveAhead rfl rfl rfl (by decide +kernel) ⟨Nat.le_of_ble_eq_true rfl, Nat.le_of_ble_eq_true rfl⟩) (prW.preV (ci := 5) (q0 := 0) hPc hDc hK hN rfl rfl) rfl rfl hl.1 rfl (lv_room (Nat.le_of_ble_eq_true rfl)) dX5_bestCost_70 ⟨Nat.le_of_ble_eq_true rfl, Nat.le_of_ble_eq_true rfl⟩) hP hD hS hA [0, 2, 3] [1] rfl rfl (by decide) (by decide) [1, 0, 2, 3] (by decide) (fun _ => rfl) (fun u70 H locs h hP hD hS => ?_)
              obtain ⟨y70_leF', rfl⟩ : ∃ z, z = u70 := ⟨_, rfl⟩
              have hP : va_P (dC, dI) vwCl [(a_sh, .inr (5, [.int thg, .int req, .ref a_ak, .int ocn, .ref a_os, .ref a_le])), (a_ak, .inl (kA, 16, .inl akF)), (a_os, .inl (kA, 24, .inl osF)), (a_le, .inl (kA, 256, .inl y70_leF'))] H := hP
              have hD : va_D A [(a_sh, .inr (5, [.int thg, .int req, .ref a_ak, .int ocn, .ref a_os, .ref a_le])), (a_ak, .inl (kA, 16, .inl akF)), (a_os, .inl (kA, 24, .inl osF)), (a_le, .inl (kA, 256, .inl y70_leF'))] := hD
              refine lv_iinc (v := (v1_41 + (1 : Int32))) (lv' := [(1, .int (v1_41 + (1 : Int32))), (0, .ref a_sh)]) hx hb dX5_bestCost_73 hl (k := 1) rfl (by rfl) (by decide) rfl (fun ls hl => ?_)
              refine lv_goto (tgt := 41) hx hb dX5_bestCost_76 (by decide) ?_
              exact ih41 (v1_41 + (1 : Int32)) y70_leF' h _ _ _ hP hD hS (lv_sub hl [1, 0] rfl)
        exact hL41 n41 (0 : Int32) (upd leF_2 r34.toNatClampNeg (0 : Int32)) h _ _ _ hP hD hS (lv_sub hl [1, 0] rfl)
      · replace h := h.2 c7
        refine lv_aload_n hx hb dX5_bestCost_10 rfl (lv_at hl 0 rfl) ?_
        refine va_get (D := (dC, dI)) (ci := 5) (v := .ref a_le) (C := RX5) (T := TX5) (N := 6) hx hb hts (fun _ h => List.mem_cons_of_mem _ (List.mem_append_right _ h)) hown hK hP 0 rfl rfl 5 (by decide) (hts (.fieldLink RX5 18 "RentOrBuy$Shelf" "least" "[I") (List.mem_cons_of_mem _ (List.mem_append_left _ (List.mem_of_getElem? (i := 1) rfl)))) (fun _ h9 => h9) rfl dX5_bestCost_11 ?_
        refine lv_aload_n hx hb dX5_bestCost_14 rfl (lv_at hl 0 rfl) ?_
        refine va_get (D := (dC, dI)) (ci := 5) (v := .ref a_os) (C := RX5) (T := TX5) (N := 6) hx hb hts (fun _ h => List.mem_cons_of_mem _ (List.mem_append_right _ h)) hown hK hP 0 rfl rfl 4 (by decide) (hts (.fieldLink RX5 15 "RentOrBuy$Shelf" "orders" "[I") (List.mem_cons_of_mem _ (List.mem_append_left _ (List.mem_of_getElem? (i := 2) rfl)))) (fun _ h9 => h9) rfl dX5_bestCost_15 ?_
        refine lv_iload_n hx hb dX5_bestCost_18 rfl (lv_at hl 1 rfl) ?_
        obtain ⟨hi19, h⟩ := h
        refine va_iald hx hb hK hP 2 0 rfl rfl hi19 dX5_bestCost_19 ?_
        refine lv_ldc (v := (1000000 : Int32)) hx hb hown (hts (.constant RX5 55 (1000000)) (List.mem_cons_of_mem _ (List.mem_append_left _ (List.mem_of_getElem? (i := 3) rfl)))) dX5_bestCost_20 ?_
        obtain ⟨hi22, h⟩ := h
        refine va_iast hx hb hK hP hD hS 3 0 rfl rfl hi22 dX5_bestCost_22 (fun H locs hP hD hS => ?_)
        have hP : va_P (dC, dI) vwCl [(a_sh, .inr (5, [.int thg, .int req, .ref a_ak, .int ocn, .ref a_os, .ref a_le])), (a_ak, .inl (kA, 16, .inl akF)), (a_os, .inl (kA, 24, .inl osF)), (a_le, .inl (kA, 256, .inl (upd leF_2 (osF v1_2.toNatClampNeg).toNatClampNeg (1000000 : Int32))))] H := hP
        have hD : va_D A [(a_sh, .inr (5, [.int thg, .int req, .ref a_ak, .int ocn, .ref a_os, .ref a_le])), (a_ak, .inl (kA, 16, .inl akF)), (a_os, .inl (kA, 24, .inl osF)), (a_le, .inl (kA, 256, .inl (upd leF_2 (osF v1_2.toNatClampNeg).toNatClampNeg (1000000 : Int32))))] := hD
        refine lv_iinc (v := (v1_2 + (1 : Int32))) (lv' := [(1, .int (v1_2 + (1 : Int32))), (0, .ref a_sh)]) hx hb dX5_bestCost_23 hl (k := 1) rfl (by rfl) (by decide) rfl (fun ls hl => ?_)
        refine lv_goto (tgt := 2) hx hb dX5_bestCost_26 (by decide) ?_
        exact ih2 (v1_2 + (1 : Int32)) (upd leF_2 (osF v1_2.toNatClampNeg).toNatClampNeg (1000000 : Int32)) h _ _ _ hP hD hS (lv_sub hl [1, 0] rfl)
  exact hL2 n2 (0 : Int32) leF h _ _ _ hP hD hS (lv_sub hl [1, 0] rfl)

/-- RentOrBuy$Shelf.stayCost -/
def rmX5_stayCost : Room := { frames := 2, cells := 0, slots := 0, locals := 44 }
set_option maxHeartbeats 4000000 in
set_option maxRecDepth 100000 in
theorem c_X5_stayCost (l : Launch) (dC : Nat → ClassId) (dI : Nat → Nat → Nat) (kA : ClassId) (a_sh a_ak a_os a_le : Nat) (sz : Nat) (thg : Int32) (req : Int32) (ocn : Int32) (akF : Nat → Int32) (p1 : Int32) (K : Int32 → Prop) (hg : g_X5_stayCost thg req ocn akF p1 K) : Met l yX5_stayCost wsX5_stayCost rmX5_stayCost (va_Pc [.ref a_sh, .int p1] (prW (dC, dI) kA sz [(a_sh, .inr (5, [.int thg, .int req, .ref a_ak, .int ocn, .ref a_os, .ref a_le])), (a_ak, .inl (kA, 16, .inl akF))])) (va_Qi (fun (r : Int32) (u : Unit) => K r) (poW (dC, dI) (va_A [(a_sh, .inr (5, [.int thg, .int req, .ref a_ak, .int ocn, .ref a_os, .ref a_le])), (a_ak, .inl (kA, 16, .inl akF))] sz) (fun (u : Unit) => [(a_sh, .inr (5, [.int thg, .int req, .ref a_ak, .int ocn, .ref a_os, .ref a_le])), (a_ak, .inl (kA, 16, .inl akF))])) (va_A [(a_sh, .inr (5, [.int thg, .int req, .ref a_ak, .int ocn, .ref a_os, .ref a_le])), (a_ak, .inl (kA, 16, .inl akF))] sz)) 0 0 (va_A [(a_sh, .inr (5, [.int thg, .int req, .ref a_ak, .int ocn, .ref a_os, .ref a_le])), (a_ak, .inl (kA, 16, .inl akF))] sz) := by
  refine Met.ofW (cc := cX5_stayCost) (maxL := 4) (ret := (some .int)) (by decide) rfl ?_
  intro p e s m args below meth c s₁ B hml hv
  obtain ⟨hargs, hsz, hP, hK, hD0, hN⟩ := hv
  have hx := B.exec
  have hb := B.bytes
  have hr := B.returns
  have hts := atoms_spec (ws := wsX5_stayCost) B.pre
  have hown : s.vm.findClass RX5 = some m.cls := findClass_of_methodNamed B.named
  have hlocks := B.notSynchronized
  subst hsz
  have hD := hD0.self (sz := s.heap.size)
  generalize hAe : va_A [(a_sh, .inr (5, [.int thg, .int req, .ref a_ak, .int ocn, .ref a_os, .ref a_le])), (a_ak, .inl (kA, 16, .inl akF))] s.heap.size = A at hD ⊢
  have hA : ∀ q : Nat, s.heap.size ≤ q → A q := fun q h => by rw [← hAe]; exact Or.inr h
  have hS : va_S A s.heap s.heap [] := va_S.rf
  obtain ⟨Q, hQ⟩ : ∃ Q : State → Prop, Q = MQ below (va_Qi (fun (r : Int32) (u : Unit) => K r) (poW (dC, dI) A (fun (u : Unit) => [(a_sh, .inr (5, [.int thg, .int req, .ref a_ak, .int ocn, .ref a_os, .ref a_le])), (a_ak, .inl (kA, 16, .inl akF))])) A) args s 0 0 A := ⟨_, rfl⟩
  rw [← hQ]
  have hP : va_P (dC, dI) vwCl [(a_sh, .inr (5, [.int thg, .int req, .ref a_ak, .int ocn, .ref a_os, .ref a_le])), (a_ak, .inl (kA, 16, .inl akF))] s.heap := hP
  refine en_ok hargs (Nat.le_of_ble_eq_true rfl) (fun ls hl => ?_)
  have hl : lv_has ls 4 [(0, .ref a_sh), (1, .int p1)] := hl
  have h := hg
  unfold g_X5_stayCost at h
  refine lv_iconst (v := (0 : Int32)) hx hb dX5_stayCost_0 (by decide +kernel) ?_
  refine lv_istore_n (lv' := [(2, .int (0 : Int32)), (0, .ref a_sh), (1, .int p1)]) hx hb dX5_stayCost_1 rfl hl (by decide) rfl (fun ls hl => ?_)
  refine lv_iconst (v := (0 : Int32)) hx hb dX5_stayCost_2 (by decide +kernel) ?_
  refine lv_istore_n (lv' := [(3, .int (0 : Int32)), (2, .int (0 : Int32)), (0, .ref a_sh), (1, .int p1)]) hx hb dX5_stayCost_3 rfl hl (by decide) rfl (fun ls hl => ?_)
  obtain ⟨J4, ⟨n4, h⟩, hz4, hs4⟩ := h
  have hL4 : ∀ (n4 : Nat) (v2_4 : Int32) (v3_4 : Int32), J4 n4 v2_4 v3_4 → ∀ (H : Heap) (locs : List Loc) (ls : Array Slot), va_P (dC, dI) vwCl [(a_sh, .inr (5, [.int thg, .int req, .ref a_ak, .int ocn, .ref a_os, .ref a_le])), (a_ak, .inl (kA, 16, .inl akF))] H → va_D A [(a_sh, .inr (5, [.int thg, .int req, .ref a_ak, .int ocn, .ref a_os, .ref a_le])), (a_ak, .inl (kA, 16, .inl akF))] → va_S A s.heap H locs → lv_has ls 4 [(0, .ref a_sh), (1, .int p1), (2, .int v2_4), (3, .int v3_4)] → W p l e (headSpec wsX5_stayCost rmX5_stayCost).room s m args below meth c H locs 0 0 Q (F0 m 4 ls []) := by
    intro n4
    induction n4 with
    | zero => intro v2_4 v3_4 h; exact absurd h (hz4 v2_4 v3_4)
    | succ n4 ih4 =>
      intro v2_4 v3_4 h H locs ls hP hD hS hl
      replace h := hs4 n4 v2_4 v3_4 h
      refine lv_iload_n hx hb dX5_stayCost_4 rfl (lv_at hl 3 rfl) ?_
      refine lv_aload_n hx hb dX5_stayCost_5 rfl (lv_at hl 0 rfl) ?_
      refine va_get (D := (dC, dI)) (ci := 5) (v := .int req) (C := RX5) (T := TX5) (N := 6) hx hb hts (fun _ h => List.mem_cons_of_mem _ (List.mem_append_right _ h)) hown hK hP 0 rfl rfl 1 (by decide) (hts (.fieldLink RX5 25 "RentOrBuy$Shelf" "requests" "I") (List.mem_cons_of_mem _ (List.mem_append_left _ (List.mem_of_getElem? (i := 0) rfl)))) (fun _ h9 => h9) rfl dX5_stayCost_6 ?_
      refine lv_icmp_ge (tgt := 34) hx hb dX5_stayCost_9 (by decide) (fun c9 => ?_) (fun c9 => ?_)
      · replace h := h.1 c9
        refine lv_iload_n hx hb dX5_stayCost_34 rfl (lv_at hl 2 rfl) ?_
        rw [hQ]
        exact rt_i () hx hb hr hlocks h hP hD hS dX5_stayCost_35
      · replace h := h.2 c9
        refine lv_iload_n hx hb dX5_stayCost_12 rfl (lv_at hl 2 rfl) ?_
        refine lv_aload_n hx hb dX5_stayCost_13 rfl (lv_at hl 0 rfl) ?_
        refine lv_iload_n hx hb dX5_stayCost_14 rfl (lv_at hl 1 rfl) ?_
        refine lv_aload_n hx hb dX5_stayCost_15 rfl (lv_at hl 0 rfl) ?_
        refine va_get (D := (dC, dI)) (ci := 5) (v := .ref a_ak) (C := RX5) (T := TX5) (N := 6) hx hb hts (fun _ h => List.mem_cons_of_mem _ (List.mem_append_right _ h)) hown hK hP 0 rfl rfl 2 (by decide) (hts (.fieldLink RX5 9 "RentOrBuy$Shelf" "asked" "[I") (List.mem_cons_of_mem _ (List.mem_append_left _ (List.mem_of_getElem? (i := 1) rfl)))) (fun _ h9 => h9) rfl dX5_stayCost_16 ?_
        refine lv_iload_n hx hb dX5_stayCost_19 rfl (lv_at hl 3 rfl) ?_
        obtain ⟨hi20, h⟩ := h
        refine va_iald hx hb hK hP 1 0 rfl rfl hi20 dX5_stayCost_20 ?_
        have hPc := hP.sub (ws' := [(a_sh, .inr (5, [.int thg, .int req, .ref a_ak, .int ocn, .ref a_os, .ref a_le]))]) [0] rfl
        have hDc := hD.sub (ws' := [(a_sh, .inr (5, [.int thg, .int req, .ref a_ak, .int ocn, .ref a_os, .ref a_le]))]) [0] (by decide) rfl
        refine fr_i (wr := [(a_ak, .inl (kA, 16, .inl akF))]) (WN := fun (u21 : Unit) => [(a_sh, .inr (5, [.int thg, .int req, .ref a_ak, .int ocn, .ref a_os, .ref a_le])), (a_ak, .inl (kA, 16, .inl akF))]) (va_runV (As := [.int p1, .int (akF v3_4.toNatClampNeg)]) (rest := [.int v2_4]) ⟨hx, hb, hml, hown, hts⟩ (c_X5_placeOf l dC dI kA a_sh a_ak a_os a_le H.size thg req ocn p1 (akF v3_4.toNatClampNeg) _ h) (cwV 2 hts gX5_stayCost_X5_placeOf rfl rfl rfl (by decide +kernel) ⟨Nat.le_of_ble_eq_true rfl, Nat.le_of_ble_eq_true rfl⟩) (prW.preV (ci := 5) (q0 := 0) hPc hDc hK hN rfl rfl) rfl rfl hl.1 rfl (lv_room (Nat.le_of_ble_eq_true rfl)) dX5_stayCost_21 ⟨Nat.le_of_ble_eq_true rfl, Nat.le_of_ble_eq_true rfl⟩) hP hD hS hA [0] [1] rfl rfl (by decide) (by decide) [1, 0] (by decide) (fun _ => rfl) (fun r21 u21 H locs h hP hD hS => ?_)
        have hP : va_P (dC, dI) vwCl [(a_sh, .inr (5, [.int thg, .int req, .ref a_ak, .int ocn, .ref a_os, .ref a_le])), (a_ak, .inl (kA, 16, .inl akF))] H := hP
        have hD : va_D A [(a_sh, .inr (5, [.int thg, .int req, .ref a_ak, .int ocn, .ref a_os, .ref a_le])), (a_ak, .inl (kA, 16, .inl akF))] := hD
        refine lv_iconst (v := (1 : Int32)) hx hb dX5_stayCost_24 (by decide +kernel) ?_
        refine lv_iadd hx hb dX5_stayCost_25 ?_
        refine lv_iadd hx hb dX5_stayCost_26 ?_
        refine lv_istore_n (lv' := [(2, .int (v2_4 + (r21 + (1 : Int32)))), (0, .ref a_sh), (1, .int p1), (3, .int v3_4)]) hx hb dX5_stayCost_27 rfl hl (by decide) rfl (fun ls hl => ?_)
        refine lv_iinc (v := (v3_4 + (1 : Int32))) (lv' := [(3, .int (v3_4 + (1 : Int32))), (2, .int (v2_4 + (r21 + (1 : Int32)))), (0, .ref a_sh), (1, .int p1)]) hx hb dX5_stayCost_28 hl (k := 3) rfl (by rfl) (by decide) rfl (fun ls hl => ?_)
        refine lv_goto (tgt := 4) hx hb dX5_stayCost_31 (by decide) ?_
        exact ih4 (v2_4 + (r21 + (1 : Int32))) (v3_4 + (1 : Int32)) h _ _ _ hP hD hS (lv_sub hl [2, 3, 1, 0] rfl)
  exact hL4 n4 (0 : Int32) (0 : Int32) h _ _ _ hP hD hS (lv_sub hl [2, 3, 1, 0] rfl)

/-- RentOrBuy$Shelf.bestStayCost -/
def rmX5_bestStayCost : Room := { frames := 3, cells := 0, slots := 0, locals := 67 }
set_option maxHeartbeats 4000000 in
set_option maxRecDepth 100000 in
theorem c_X5_bestStayCost (l : Launch) (dC : Nat → ClassId) (dI : Nat → Nat → Nat) (kA : ClassId) (a_sh a_ak a_os a_le : Nat) (sz : Nat) (thg : Int32) (req : Int32) (ocn : Int32) (akF : Nat → Int32) (osF : Nat → Int32) (K : Int32 → Prop) (hg : g_X5_bestStayCost thg req ocn akF osF K) : Met l yX5_bestStayCost wsX5_bestStayCost rmX5_bestStayCost (va_Pc [.ref a_sh] (prW (dC, dI) kA sz [(a_sh, .inr (5, [.int thg, .int req, .ref a_ak, .int ocn, .ref a_os, .ref a_le])), (a_ak, .inl (kA, 16, .inl akF)), (a_os, .inl (kA, 24, .inl osF))])) (va_Qi (fun (r : Int32) (u : Unit) => K r) (poW (dC, dI) (va_A [(a_sh, .inr (5, [.int thg, .int req, .ref a_ak, .int ocn, .ref a_os, .ref a_le])), (a_ak, .inl (kA, 16, .inl akF)), (a_os, .inl (kA, 24, .inl osF))] sz) (fun (u : Unit) => [(a_sh, .inr (5, [.int thg, .int req, .ref a_ak, .int ocn, .ref a_os, .ref a_le])), (a_ak, .inl (kA, 16, .inl akF)), (a_os, .inl (kA, 24, .inl osF))])) (va_A [(a_sh, .inr (5, [.int thg, .int req, .ref a_ak, .int ocn, .ref a_os, .ref a_le])), (a_ak, .inl (kA, 16, .inl akF)), (a_os, .inl (kA, 24, .inl osF))] sz)) 0 0 (va_A [(a_sh, .inr (5, [.int thg, .int req, .ref a_ak, .int ocn, .ref a_os, .ref a_le])), (a_ak, .inl (kA, 16, .inl akF)), (a_os, .inl (kA, 24, .inl osF))] sz) := by
  refine Met.ofW (cc := cX5_bestStayCost) (maxL := 3) (ret := (some .int)) (by decide) rfl ?_
  intro p e s m args below meth c s₁ B hml hv
  obtain ⟨hargs, hsz, hP, hK, hD0, hN⟩ := hv
  have hx := B.exec
  have hb := B.bytes
  have hr := B.returns
  have hts := atoms_spec (ws := wsX5_bestStayCost) B.pre
  have hown : s.vm.findClass RX5 = some m.cls := findClass_of_methodNamed B.named
  have hlocks := B.notSynchronized
  subst hsz
  have hD := hD0.self (sz := s.heap.size)
  generalize hAe : va_A [(a_sh, .inr (5, [.int thg, .int req, .ref a_ak, .int ocn, .ref a_os, .ref a_le])), (a_ak, .inl (kA, 16, .inl akF)), (a_os, .inl (kA, 24, .inl osF))] s.heap.size = A at hD ⊢
  have hA : ∀ q : Nat, s.heap.size ≤ q → A q := fun q h => by rw [← hAe]; exact Or.inr h
  have hS : va_S A s.heap s.heap [] := va_S.rf
  obtain ⟨Q, hQ⟩ : ∃ Q : State → Prop, Q = MQ below (va_Qi (fun (r : Int32) (u : Unit) => K r) (poW (dC, dI) A (fun (u : Unit) => [(a_sh, .inr (5, [.int thg, .int req, .ref a_ak, .int ocn, .ref a_os, .ref a_le])), (a_ak, .inl (kA, 16, .inl akF)), (a_os, .inl (kA, 24, .inl osF))])) A) args s 0 0 A := ⟨_, rfl⟩
  rw [← hQ]
  have hP : va_P (dC, dI) vwCl [(a_sh, .inr (5, [.int thg, .int req, .ref a_ak, .int ocn, .ref a_os, .ref a_le])), (a_ak, .inl (kA, 16, .inl akF)), (a_os, .inl (kA, 24, .inl osF))] s.heap := hP
  refine en_ok hargs (Nat.le_of_ble_eq_true rfl) (fun ls hl => ?_)
  have hl : lv_has ls 3 [(0, .ref a_sh)] := hl
  have h := hg
  unfold g_X5_bestStayCost at h
  refine lv_ldc (v := (1000000 : Int32)) hx hb hown (hts (.constant RX5 55 (1000000)) (List.mem_cons_of_mem _ (List.mem_append_left _ (List.mem_of_getElem? (i := 0) rfl)))) dX5_bestStayCost_0 ?_
  refine lv_istore_n (lv' := [(1, .int (1000000 : Int32)), (0, .ref a_sh)]) hx hb dX5_bestStayCost_2 rfl hl (by decide) rfl (fun ls hl => ?_)
  refine lv_iconst (v := (0 : Int32)) hx hb dX5_bestStayCost_3 (by decide +kernel) ?_
  refine lv_istore_n (lv' := [(2, .int (0 : Int32)), (1, .int (1000000 : Int32)), (0, .ref a_sh)]) hx hb dX5_bestStayCost_4 rfl hl (by decide) rfl (fun ls hl => ?_)
  obtain ⟨J5, ⟨n5, h⟩, hz5, hs5⟩ := h
  have hL5 : ∀ (n5 : Nat) (v1_5 : Int32) (v2_5 : Int32), J5 n5 v1_5 v2_5 → ∀ (H : Heap) (locs : List Loc) (ls : Array Slot), va_P (dC, dI) vwCl [(a_sh, .inr (5, [.int thg, .int req, .ref a_ak, .int ocn, .ref a_os, .ref a_le])), (a_ak, .inl (kA, 16, .inl akF)), (a_os, .inl (kA, 24, .inl osF))] H → va_D A [(a_sh, .inr (5, [.int thg, .int req, .ref a_ak, .int ocn, .ref a_os, .ref a_le])), (a_ak, .inl (kA, 16, .inl akF)), (a_os, .inl (kA, 24, .inl osF))] → va_S A s.heap H locs → lv_has ls 3 [(0, .ref a_sh), (1, .int v1_5), (2, .int v2_5)] → W p l e (headSpec wsX5_bestStayCost rmX5_bestStayCost).room s m args below meth c H locs 0 0 Q (F0 m 5 ls []) := by
    intro n5
    induction n5 with
    | zero => intro v1_5 v2_5 h; exact absurd h (hz5 v1_5 v2_5)
    | succ n5 ih5 =>
      intro v1_5 v2_5 h H locs ls hP hD hS hl
      replace h := hs5 n5 v1_5 v2_5 h
      refine lv_iload_n hx hb dX5_bestStayCost_5 rfl (lv_at hl 2 rfl) ?_
      refine lv_aload_n hx hb dX5_bestStayCost_6 rfl (lv_at hl 0 rfl) ?_
      refine va_get (D := (dC, dI)) (ci := 5) (v := .int ocn) (C := RX5) (T := TX5) (N := 6) hx hb hts (fun _ h => List.mem_cons_of_mem _ (List.mem_append_right _ h)) hown hK hP 0 rfl rfl 3 (by decide) (hts (.fieldLink RX5 31 "RentOrBuy$Shelf" "orderCount" "I") (List.mem_cons_of_mem _ (List.mem_append_left _ (List.mem_of_getElem? (i := 1) rfl)))) (fun _ h9 => h9) rfl dX5_bestStayCost_7 ?_
      refine lv_icmp_ge (tgt := 34) hx hb dX5_bestStayCost_10 (by decide) (fun c10 => ?_) (fun c10 => ?_)
      · replace h := h.1 c10
        refine lv_iload_n hx hb dX5_bestStayCost_34 rfl (lv_at hl 1 rfl) ?_
        rw [hQ]
        exact rt_i () hx hb hr hlocks h hP hD hS dX5_bestStayCost_35
      · replace h := h.2 c10
        refine lv_iload_n hx hb dX5_bestStayCost_13 rfl (lv_at hl 1 rfl) ?_
        refine lv_aload_n hx hb dX5_bestStayCost_14 rfl (lv_at hl 0 rfl) ?_
        refine lv_aload_n hx hb dX5_bestStayCost_15 rfl (lv_at hl 0 rfl) ?_
        refine va_get (D := (dC, dI)) (ci := 5) (v := .ref a_os) (C := RX5) (T := TX5) (N := 6) hx hb hts (fun _ h => List.mem_cons_of_mem _ (List.mem_append_right _ h)) hown hK hP 0 rfl rfl 4 (by decide) (hts (.fieldLink RX5 15 "RentOrBuy$Shelf" "orders" "[I") (List.mem_cons_of_mem _ (List.mem_append_left _ (List.mem_of_getElem? (i := 2) rfl)))) (fun _ h9 => h9) rfl dX5_bestStayCost_16 ?_
        refine lv_iload_n hx hb dX5_bestStayCost_19 rfl (lv_at hl 2 rfl) ?_
        obtain ⟨hi20, h⟩ := h
        refine va_iald hx hb hK hP 2 0 rfl rfl hi20 dX5_bestStayCost_20 ?_
        have hPc := hP.sub (ws' := [(a_sh, .inr (5, [.int thg, .int req, .ref a_ak, .int ocn, .ref a_os, .ref a_le])), (a_ak, .inl (kA, 16, .inl akF))]) [0, 1] rfl
        have hDc := hD.sub (ws' := [(a_sh, .inr (5, [.int thg, .int req, .ref a_ak, .int ocn, .ref a_os, .ref a_le])), (a_ak, .inl (kA, 16, .inl akF))]) [0, 1] (by decide) rfl
        refine fr_i (wr := [(a_os, .inl (kA, 24, .inl osF))]) (WN := fun (u21 : Unit) => [(a_sh, .inr (5, [.int thg, .int req, .ref a_ak, .int ocn, .ref a_os, .ref a_le])), (a_ak, .inl (kA, 16, .inl akF)), (a_os, .inl (kA, 24, .inl osF))]) (va_runV (As := [.int (osF v2_5.toNatClampNeg)]) (rest := [.int v1_5]) ⟨hx, hb, hml, hown, hts⟩ (c_X5_stayCost l dC dI kA a_sh a_ak a_os a_le H.size thg req ocn akF (osF v2_5.toNatClampNeg) _ h) (cwV 1 hts gX5_bestStayCost_X5_stayCost rfl rfl rfl (by decide +kernel) ⟨Nat.le_of_ble_eq_true rfl, Nat.le_of_ble_eq_true rfl⟩) (prW.preV (ci := 5) (q0 := 0) hPc hDc hK hN rfl rfl) rfl rfl hl.1 rfl (lv_room (Nat.le_of_ble_eq_true rfl)) dX5_bestStayCost_21 ⟨Nat.le_of_ble_eq_true rfl, Nat.le_of_ble_eq_true rfl⟩) hP hD hS hA [0, 1] [2] rfl rfl (by decide) (by decide) [1, 2, 0] (by decide) (fun _ => rfl) (fun r21 u21 H locs h hP hD hS => ?_)
        have hP : va_P (dC, dI) vwCl [(a_sh, .inr (5, [.int thg, .int req, .ref a_ak, .int ocn, .ref a_os, .ref a_le])), (a_ak, .inl (kA, 16, .inl akF)), (a_os, .inl (kA, 24, .inl osF))] H := hP
        have hD : va_D A [(a_sh, .inr (5, [.int thg, .int req, .ref a_ak, .int ocn, .ref a_os, .ref a_le])), (a_ak, .inl (kA, 16, .inl akF)), (a_os, .inl (kA, 24, .inl osF))] := hD
        refine va_mmin hx hb (by rw [hml]; exact hl.1.symm) hown (hts (.methodLink RX5 60 Lib.Math.min.name) (List.mem_cons_of_mem _ (List.mem_append_left _ (List.mem_of_getElem? (i := 3) rfl)))) (hts (.static Lib.Math.min.name) (List.mem_cons_of_mem _ (List.mem_append_left _ (List.mem_of_getElem? (i := 4) rfl)))) (hts (.initialized "java/lang/Math") (List.mem_cons_of_mem _ (List.mem_append_left _ (List.mem_of_getElem? (i := 5) rfl)))) (hts (.code Lib.Math.min.name Lib.Math.min.code 2 (some .int)) (List.mem_cons_of_mem _ (List.mem_append_left _ (List.mem_of_getElem? (i := 6) rfl)))) (Nat.le_of_ble_eq_true rfl) (Nat.le_of_ble_eq_true rfl) (Nat.le_of_ble_eq_true rfl) (Nat.le_of_ble_eq_true rfl) dX5_bestStayCost_24 ?_
        refine lv_istore_n (lv' := [(1, .int (if r21 < v1_5 then r21 else v1_5)), (0, .ref a_sh), (2, .int v2_5)]) hx hb dX5_bestStayCost_27 rfl hl (by decide) rfl (fun ls hl => ?_)
        refine lv_iinc (v := (v2_5 + (1 : Int32))) (lv' := [(2, .int (v2_5 + (1 : Int32))), (1, .int (if r21 < v1_5 then r21 else v1_5)), (0, .ref a_sh)]) hx hb dX5_bestStayCost_28 hl (k := 2) rfl (by rfl) (by decide) rfl (fun ls hl => ?_)
        refine lv_goto (tgt := 5) hx hb dX5_bestStayCost_31 (by decide) ?_
        exact ih5 (if r21 < v1_5 then r21 else v1_5) (v2_5 + (1 : Int32)) h _ _ _ hP hD hS (lv_sub hl [2, 1, 0] rfl)
  exact hL5 n5 (1000000 : Int32) (0 : Int32) h _ _ _ hP hD hS (lv_sub hl [2, 1, 0] rfl)

/-- RentOrBuy$Shelf.isOrder -/
def rmX5_isOrder : Room := { frames := 1, cells := 0, slots := 0, locals := 21 }
set_option maxHeartbeats 4000000 in
set_option maxRecDepth 100000 in
theorem c_X5_isOrder (l : Launch) (dC : Nat → ClassId) (dI : Nat → Nat → Nat) (kA : ClassId) (a_sh a_ak a_os a_le : Nat) (sz : Nat) (thg : Int32) (req : Int32) (ocn : Int32) (p1 : Int32) (K : Int32 → Prop) (hg : g_X5_isOrder thg req ocn p1 K) : Met l yX5_isOrder wsX5_isOrder rmX5_isOrder (va_Pc [.ref a_sh, .int p1] (prW (dC, dI) kA sz [(a_sh, .inr (5, [.int thg, .int req, .ref a_ak, .int ocn, .ref a_os, .ref a_le]))])) (va_Qi (fun (r : Int32) (u : Unit) => K r) (poW (dC, dI) (va_A [(a_sh, .inr (5, [.int thg, .int req, .ref a_ak, .int ocn, .ref a_os, .ref a_le]))] sz) (fun (u : Unit) => [(a_sh, .inr (5, [.int thg, .int req, .ref a_ak, .int ocn, .ref a_os, .ref a_le]))])) (va_A [(a_sh, .inr (5, [.int thg, .int req, .ref a_ak, .int ocn, .ref a_os, .ref a_le]))] sz)) 0 0 (va_A [(a_sh, .inr (5, [.int thg, .int req, .ref a_ak, .int ocn, .ref a_os, .ref a_le]))] sz) := by
  refine Met.ofW (cc := cX5_isOrder) (maxL := 4) (ret := (some .boolean)) (by decide) rfl ?_
  intro p e s m args below meth c s₁ B hml hv
  obtain ⟨hargs, hsz, hP, hK, hD0, hN⟩ := hv
  have hx := B.exec
  have hb := B.bytes
  have hr := B.returns
  have hts := atoms_spec (ws := wsX5_isOrder) B.pre
  have hown : s.vm.findClass RX5 = some m.cls := findClass_of_methodNamed B.named
  have hlocks := B.notSynchronized
  subst hsz
  have hD := hD0.self (sz := s.heap.size)
  generalize hAe : va_A [(a_sh, .inr (5, [.int thg, .int req, .ref a_ak, .int ocn, .ref a_os, .ref a_le]))] s.heap.size = A at hD ⊢
  have hA : ∀ q : Nat, s.heap.size ≤ q → A q := fun q h => by rw [← hAe]; exact Or.inr h
  have hS : va_S A s.heap s.heap [] := va_S.rf
  obtain ⟨Q, hQ⟩ : ∃ Q : State → Prop, Q = MQ below (va_Qi (fun (r : Int32) (u : Unit) => K r) (poW (dC, dI) A (fun (u : Unit) => [(a_sh, .inr (5, [.int thg, .int req, .ref a_ak, .int ocn, .ref a_os, .ref a_le]))])) A) args s 0 0 A := ⟨_, rfl⟩
  rw [← hQ]
  have hP : va_P (dC, dI) vwCl [(a_sh, .inr (5, [.int thg, .int req, .ref a_ak, .int ocn, .ref a_os, .ref a_le]))] s.heap := hP
  refine en_ok hargs (Nat.le_of_ble_eq_true rfl) (fun ls hl => ?_)
  have hl : lv_has ls 4 [(0, .ref a_sh), (1, .int p1)] := hl
  have h := hg
  unfold g_X5_isOrder at h
  refine lv_iconst (v := (0 : Int32)) hx hb dX5_isOrder_0 (by decide +kernel) ?_
  refine lv_istore_n (lv' := [(2, .int (0 : Int32)), (0, .ref a_sh), (1, .int p1)]) hx hb dX5_isOrder_1 rfl hl (by decide) rfl (fun ls hl => ?_)
  refine lv_iconst (v := (0 : Int32)) hx hb dX5_isOrder_2 (by decide +kernel) ?_
  refine lv_istore_n (lv' := [(3, .int (0 : Int32)), (2, .int (0 : Int32)), (0, .ref a_sh), (1, .int p1)]) hx hb dX5_isOrder_3 rfl hl (by decide) rfl (fun ls hl => ?_)
  obtain ⟨J4, ⟨n4, h⟩, hz4, hs4⟩ := h
  have hL4 : ∀ (n4 : Nat) (v2_4 : Int32) (v3_4 : Int32), J4 n4 v2_4 v3_4 → ∀ (H : Heap) (locs : List Loc) (ls : Array Slot), va_P (dC, dI) vwCl [(a_sh, .inr (5, [.int thg, .int req, .ref a_ak, .int ocn, .ref a_os, .ref a_le]))] H → va_D A [(a_sh, .inr (5, [.int thg, .int req, .ref a_ak, .int ocn, .ref a_os, .ref a_le]))] → va_S A s.heap H locs → lv_has ls 4 [(0, .ref a_sh), (1, .int p1), (2, .int v2_4), (3, .int v3_4)] → W p l e (headSpec wsX5_isOrder rmX5_isOrder).room s m args below meth c H locs 0 0 Q (F0 m 4 ls []) := by
    intro n4
    induction n4 with
    | zero => intro v2_4 v3_4 h; exact absurd h (hz4 v2_4 v3_4)
    | succ n4 ih4 =>
      intro v2_4 v3_4 h H locs ls hP hD hS hl
      replace h := hs4 n4 v2_4 v3_4 h
      refine lv_iload_n hx hb dX5_isOrder_4 rfl (lv_at hl 3 rfl) ?_
      refine lv_aload_n hx hb dX5_isOrder_5 rfl (lv_at hl 0 rfl) ?_
      refine va_get (D := (dC, dI)) (ci := 5) (v := .int thg) (C := RX5) (T := TX5) (N := 6) hx hb hts (fun _ h => List.mem_cons_of_mem _ (List.mem_append_right _ h)) hown hK hP 0 rfl rfl 0 (by decide) (hts (.fieldLink RX5 21 "RentOrBuy$Shelf" "things" "I") (List.mem_cons_of_mem _ (List.mem_append_left _ (List.mem_of_getElem? (i := 0) rfl)))) (fun _ h9 => h9) rfl dX5_isOrder_6 ?_
      refine lv_icmp_ge (tgt := 28) hx hb dX5_isOrder_9 (by decide) (fun c9 => ?_) (fun c9 => ?_)
      · replace h := h.1 c9
        refine lv_iload_n hx hb dX5_isOrder_28 rfl (lv_at hl 2 rfl) ?_
        refine lv_iconst (v := (1 : Int32)) hx hb dX5_isOrder_29 (by decide +kernel) ?_
        refine lv_aload_n hx hb dX5_isOrder_30 rfl (lv_at hl 0 rfl) ?_
        refine va_get (D := (dC, dI)) (ci := 5) (v := .int thg) (C := RX5) (T := TX5) (N := 6) hx hb hts (fun _ h => List.mem_cons_of_mem _ (List.mem_append_right _ h)) hown hK hP 0 rfl rfl 0 (by decide) (hts (.fieldLink RX5 21 "RentOrBuy$Shelf" "things" "I") (List.mem_cons_of_mem _ (List.mem_append_left _ (List.mem_of_getElem? (i := 0) rfl)))) (fun _ h9 => h9) rfl dX5_isOrder_31 ?_
        refine lv_ishl hx hb dX5_isOrder_34 ?_
        refine lv_iconst (v := (1 : Int32)) hx hb dX5_isOrder_35 (by decide +kernel) ?_
        refine lv_isub hx hb dX5_isOrder_36 ?_
        refine lv_icmp_ne (tgt := 55) hx hb dX5_isOrder_37 (by decide) (fun c37 => ?_) (fun c37 => ?_)
        · replace h := h.1 c37
          refine lv_iconst (v := (0 : Int32)) hx hb dX5_isOrder_55 (by decide +kernel) ?_
          rw [hQ]
          exact rt_z () hx hb hr hlocks (by decide) h hP hD hS dX5_isOrder_56
        · replace h := h.2 c37
          refine lv_iload_n hx hb dX5_isOrder_40 rfl (lv_at hl 1 rfl) ?_
          refine lv_iconst (v := (2 : Int32)) hx hb dX5_isOrder_41 (by decide +kernel) ?_
          refine lv_aload_n hx hb dX5_isOrder_42 rfl (lv_at hl 0 rfl) ?_
          refine va_get (D := (dC, dI)) (ci := 5) (v := .int thg) (C := RX5) (T := TX5) (N := 6) hx hb hts (fun _ h => List.mem_cons_of_mem _ (List.mem_append_right _ h)) hown hK hP 0 rfl rfl 0 (by decide) (hts (.fieldLink RX5 21 "RentOrBuy$Shelf" "things" "I") (List.mem_cons_of_mem _ (List.mem_append_left _ (List.mem_of_getElem? (i := 0) rfl)))) (fun _ h9 => h9) rfl dX5_isOrder_43 ?_
          refine lv_imul hx hb dX5_isOrder_46 ?_
          refine lv_ishr hx hb dX5_isOrder_47 ?_
          refine lv_if_ne (tgt := 55) hx hb dX5_isOrder_48 (by decide) (fun c48 => ?_) (fun c48 => ?_)
          · replace h := h.1 c48
            refine lv_iconst (v := (0 : Int32)) hx hb dX5_isOrder_55 (by decide +kernel) ?_
            rw [hQ]
            exact rt_z () hx hb hr hlocks (by decide) h hP hD hS dX5_isOrder_56
          · replace h := h.2 c48
            refine lv_iconst (v := (1 : Int32)) hx hb dX5_isOrder_51 (by decide +kernel) ?_
            refine lv_goto (tgt := 56) hx hb dX5_isOrder_52 (by decide) ?_
            rw [hQ]
            exact rt_z () hx hb hr hlocks (by decide) h hP hD hS dX5_isOrder_56
      · replace h := h.2 c9
        refine lv_iload_n hx hb dX5_isOrder_12 rfl (lv_at hl 2 rfl) ?_
        refine lv_iconst (v := (1 : Int32)) hx hb dX5_isOrder_13 (by decide +kernel) ?_
        refine lv_iload_n hx hb dX5_isOrder_14 rfl (lv_at hl 1 rfl) ?_
        refine lv_iload_n hx hb dX5_isOrder_15 rfl (lv_at hl 3 rfl) ?_
        have hPc := hP.sub (ws' := []) [] rfl
        have hDc := hD.sub (ws' := []) [] (by decide) rfl
        refine fr_i (wr := [(a_sh, .inr (5, [.int thg, .int req, .ref a_ak, .int ocn, .ref a_os, .ref a_le]))]) (WN := fun (u16 : Unit) => [(a_sh, .inr (5, [.int thg, .int req, .ref a_ak, .int ocn, .ref a_os, .ref a_le]))]) (va_runS (As := [.int p1, .int v3_4]) (rest := [.int (1 : Int32), .int v2_4]) ⟨hx, hb, hml, hown, hts⟩ (c_X5_thingAt l dC dI kA H.size p1 v3_4 _ h) (va_cwS 2 hts gX5_isOrder_X5_thingAt rfl rfl rfl (by decide +kernel) ⟨Nat.le_of_ble_eq_true rfl, Nat.le_of_ble_eq_true rfl⟩) (prW.preS hPc hDc hK hN) rfl rfl hl.1 rfl (lv_room (Nat.le_of_ble_eq_true rfl)) dX5_isOrder_16 ⟨Nat.le_of_ble_eq_true rfl, Nat.le_of_ble_eq_true rfl⟩) hP hD hS hA [] [0] rfl rfl (by decide) (by decide) [0] (by decide) (fun _ => rfl) (fun r16 u16 H locs h hP hD hS => ?_)
        have hP : va_P (dC, dI) vwCl [(a_sh, .inr (5, [.int thg, .int req, .ref a_ak, .int ocn, .ref a_os, .ref a_le]))] H := hP
        have hD : va_D A [(a_sh, .inr (5, [.int thg, .int req, .ref a_ak, .int ocn, .ref a_os, .ref a_le]))] := hD
        refine lv_ishl hx hb dX5_isOrder_19 ?_
        refine lv_ior hx hb dX5_isOrder_20 ?_
        refine lv_istore_n (lv' := [(2, .int (v2_4 ||| ((1 : Int32) <<< (r16 &&& (31 : Int32))))), (0, .ref a_sh), (1, .int p1), (3, .int v3_4)]) hx hb dX5_isOrder_21 rfl hl (by decide) rfl (fun ls hl => ?_)
        refine lv_iinc (v := (v3_4 + (1 : Int32))) (lv' := [(3, .int (v3_4 + (1 : Int32))), (2, .int (v2_4 ||| ((1 : Int32) <<< (r16 &&& (31 : Int32))))), (0, .ref a_sh), (1, .int p1)]) hx hb dX5_isOrder_22 hl (k := 3) rfl (by rfl) (by decide) rfl (fun ls hl => ?_)
        refine lv_goto (tgt := 4) hx hb dX5_isOrder_25 (by decide) ?_
        exact ih4 (v2_4 ||| ((1 : Int32) <<< (r16 &&& (31 : Int32)))) (v3_4 + (1 : Int32)) h _ _ _ hP hD hS (lv_sub hl [2, 3, 1, 0] rfl)
  exact hL4 n4 (0 : Int32) (0 : Int32) h _ _ _ hP hD hS (lv_sub hl [2, 3, 1, 0] rfl)

/-- RentOrBuy$Shelf.findOrders -/
def rmX5_findOrders : Room := { frames := 2, cells := 0, slots := 0, locals := 44 }
set_option maxHeartbeats 4000000 in
set_option maxRecDepth 100000 in
theorem c_X5_findOrders (l : Launch) (dC : Nat → ClassId) (dI : Nat → Nat → Nat) (kA : ClassId) (a_sh a_os a_ak a_le : Nat) (sz : Nat) (thg : Int32) (req : Int32) (ocn : Int32) (osF : Nat → Int32) (K : Int32 → (Nat → Int32) → Prop) (hg : g_X5_findOrders thg req ocn osF K) : Met l yX5_findOrders wsX5_findOrders rmX5_findOrders (va_Pc [.ref a_sh] (prW (dC, dI) kA sz [(a_sh, .inr (5, [.int thg, .int req, .ref a_ak, .int ocn, .ref a_os, .ref a_le])), (a_os, .inl (kA, 24, .inl osF))])) (va_Qv (fun (u : Int32 × (Nat → Int32)) => K u.1 u.2) (poW (dC, dI) (va_A [(a_sh, .inr (5, [.int thg, .int req, .ref a_ak, .int ocn, .ref a_os, .ref a_le])), (a_os, .inl (kA, 24, .inl osF))] sz) (fun (u : Int32 × (Nat → Int32)) => [(a_sh, .inr (5, [.int thg, .int req, .ref a_ak, .int u.1, .ref a_os, .ref a_le])), (a_os, .inl (kA, 24, .inl u.2))])) (va_A [(a_sh, .inr (5, [.int thg, .int req, .ref a_ak, .int ocn, .ref a_os, .ref a_le])), (a_os, .inl (kA, 24, .inl osF))] sz)) 0 0 (va_A [(a_sh, .inr (5, [.int thg, .int req, .ref a_ak, .int ocn, .ref a_os, .ref a_le])), (a_os, .inl (kA, 24, .inl osF))] sz) := by
  refine Met.ofW (cc := cX5_findOrders) (maxL := 2) (ret := none) (by decide) rfl ?_
  intro p e s m args below meth c s₁ B hml hv
  obtain ⟨hargs, hsz, hP, hK, hD0, hN⟩ := hv
  have hx := B.exec
  have hb := B.bytes
  have hr := B.returns
  have hts := atoms_spec (ws := wsX5_findOrders) B.pre
  have hown : s.vm.findClass RX5 = some m.cls := findClass_of_methodNamed B.named
  have hlocks := B.notSynchronized
  subst hsz
  have hD := hD0.self (sz := s.heap.size)
  generalize hAe : va_A [(a_sh, .inr (5, [.int thg, .int req, .ref a_ak, .int ocn, .ref a_os, .ref a_le])), (a_os, .inl (kA, 24, .inl osF))] s.heap.size = A at hD ⊢
  have hA : ∀ q : Nat, s.heap.size ≤ q → A q := fun q h => by rw [← hAe]; exact Or.inr h
  have hS : va_S A s.heap s.heap [] := va_S.rf
  obtain ⟨Q, hQ⟩ : ∃ Q : State → Prop, Q = MQ below (va_Qv (fun (u : Int32 × (Nat → Int32)) => K u.1 u.2) (poW (dC, dI) A (fun (u : Int32 × (Nat → Int32)) => [(a_sh, .inr (5, [.int thg, .int req, .ref a_ak, .int u.1, .ref a_os, .ref a_le])), (a_os, .inl (kA, 24, .inl u.2))])) A) args s 0 0 A := ⟨_, rfl⟩
  rw [← hQ]
  have hP : va_P (dC, dI) vwCl [(a_sh, .inr (5, [.int thg, .int req, .ref a_ak, .int ocn, .ref a_os, .ref a_le])), (a_os, .inl (kA, 24, .inl osF))] s.heap := hP
  refine en_ok hargs (Nat.le_of_ble_eq_true rfl) (fun ls hl => ?_)
  have hl : lv_has ls 2 [(0, .ref a_sh)] := hl
  have h := hg
  unfold g_X5_findOrders at h
  refine lv_aload_n hx hb dX5_findOrders_0 rfl (lv_at hl 0 rfl) ?_
  refine lv_iconst (v := (0 : Int32)) hx hb dX5_findOrders_1 (by decide +kernel) ?_
  refine va_put (D := (dC, dI)) (ci := 5) (v := .int (0 : Int32)) (ty := .int) (C := RX5) (T := TX5) (N := 6) hx hb hts (fun _ h => List.mem_cons_of_mem _ (List.mem_append_right _ h)) tyX5 tyX5_ok nmX5 hown hK hP hD hS 0 rfl rfl 3 (by decide) (hts (.fieldLink RX5 31 "RentOrBuy$Shelf" "orderCount" "I") (List.mem_cons_of_mem _ (List.mem_append_left _ (List.mem_of_getElem? (i := 0) rfl)))) (fun _ h9 => h9) rfl (by decide +kernel) rfl rfl (Nat.le_of_ble_eq_true rfl) dX5_findOrders_2 (fun H locs hP hD hS => ?_)
  have hP : va_P (dC, dI) vwCl [(a_sh, .inr (5, [.int thg, .int req, .ref a_ak, .int (0 : Int32), .ref a_os, .ref a_le])), (a_os, .inl (kA, 24, .inl osF))] H := hP
  have hD : va_D A [(a_sh, .inr (5, [.int thg, .int req, .ref a_ak, .int (0 : Int32), .ref a_os, .ref a_le])), (a_os, .inl (kA, 24, .inl osF))] := hD
  refine lv_iconst (v := (0 : Int32)) hx hb dX5_findOrders_5 (by decide +kernel) ?_
  refine lv_istore_n (lv' := [(1, .int (0 : Int32)), (0, .ref a_sh)]) hx hb dX5_findOrders_6 rfl hl (by decide) rfl (fun ls hl => ?_)
  obtain ⟨J7, ⟨n7, h⟩, hz7, hs7⟩ := h
  have hL7 : ∀ (n7 : Nat) (v1_7 : Int32) (ocn_7 : Int32) (osF_7 : Nat → Int32), J7 n7 v1_7 ocn_7 osF_7 → ∀ (H : Heap) (locs : List Loc) (ls : Array Slot), va_P (dC, dI) vwCl [(a_sh, .inr (5, [.int thg, .int req, .ref a_ak, .int ocn_7, .ref a_os, .ref a_le])), (a_os, .inl (kA, 24, .inl osF_7))] H → va_D A [(a_sh, .inr (5, [.int thg, .int req, .ref a_ak, .int ocn_7, .ref a_os, .ref a_le])), (a_os, .inl (kA, 24, .inl osF_7))] → va_S A s.heap H locs → lv_has ls 2 [(0, .ref a_sh), (1, .int v1_7)] → W p l e (headSpec wsX5_findOrders rmX5_findOrders).room s m args below meth c H locs 0 0 Q (F0 m 7 ls []) := by
    intro n7
    induction n7 with
    | zero => intro v1_7 ocn_7 osF_7 h; exact absurd h (hz7 v1_7 ocn_7 osF_7)
    | succ n7 ih7 =>
      intro v1_7 ocn_7 osF_7 h H locs ls hP hD hS hl
      replace h := hs7 n7 v1_7 ocn_7 osF_7 h
      refine lv_iload_n hx hb dX5_findOrders_7 rfl (lv_at hl 1 rfl) ?_
      refine lv_sipush (v := (256 : Int32)) hx hb dX5_findOrders_8 (by decide +kernel) ?_
      refine lv_icmp_ge (tgt := 57) hx hb dX5_findOrders_11 (by decide) (fun c11 => ?_) (fun c11 => ?_)
      · replace h := h.1 c11
        rw [hQ]
        exact rt_v (ocn_7, osF_7) hx hb hr hlocks h hP hD hS dX5_findOrders_57
      · replace h := h.2 c11
        refine lv_aload_n hx hb dX5_findOrders_14 rfl (lv_at hl 0 rfl) ?_
        refine va_get (D := (dC, dI)) (ci := 5) (v := .int ocn_7) (C := RX5) (T := TX5) (N := 6) hx hb hts (fun _ h => List.mem_cons_of_mem _ (List.mem_append_right _ h)) hown hK hP 0 rfl rfl 3 (by decide) (hts (.fieldLink RX5 31 "RentOrBuy$Shelf" "orderCount" "I") (List.mem_cons_of_mem _ (List.mem_append_left _ (List.mem_of_getElem? (i := 0) rfl)))) (fun _ h9 => h9) rfl dX5_findOrders_15 ?_
        refine lv_bipush (v := (24 : Int32)) hx hb dX5_findOrders_18 (by decide +kernel) ?_
        refine lv_icmp_ge (tgt := 57) hx hb dX5_findOrders_20 (by decide) (fun c20 => ?_) (fun c20 => ?_)
        · replace h := h.1 c20
          rw [hQ]
          exact rt_v (ocn_7, osF_7) hx hb hr hlocks h hP hD hS dX5_findOrders_57
        · replace h := h.2 c20
          refine lv_aload_n hx hb dX5_findOrders_23 rfl (lv_at hl 0 rfl) ?_
          refine lv_iload_n hx hb dX5_findOrders_24 rfl (lv_at hl 1 rfl) ?_
          have hPc := hP.sub (ws' := [(a_sh, .inr (5, [.int thg, .int req, .ref a_ak, .int ocn_7, .ref a_os, .ref a_le]))]) [0] rfl
          have hDc := hD.sub (ws' := [(a_sh, .inr (5, [.int thg, .int req, .ref a_ak, .int ocn_7, .ref a_os, .ref a_le]))]) [0] (by decide) rfl
          refine fr_i (wr := [(a_os, .inl (kA, 24, .inl osF_7))]) (WN := fun (u25 : Unit) => [(a_sh, .inr (5, [.int thg, .int req, .ref a_ak, .int ocn_7, .ref a_os, .ref a_le])), (a_os, .inl (kA, 24, .inl osF_7))]) (va_runV (As := [.int v1_7]) (rest := []) ⟨hx, hb, hml, hown, hts⟩ (c_X5_isOrder l dC dI kA a_sh a_ak a_os a_le H.size thg req ocn_7 v1_7 _ h) (cwV 1 hts gX5_findOrders_X5_isOrder rfl rfl rfl (by decide +kernel) ⟨Nat.le_of_ble_eq_true rfl, Nat.le_of_ble_eq_true rfl⟩) (prW.preV (ci := 5) (q0 := 0) hPc hDc hK hN rfl rfl) rfl rfl hl.1 rfl (lv_room (Nat.le_of_ble_eq_true rfl)) dX5_findOrders_25 ⟨Nat.le_of_ble_eq_true rfl, Nat.le_of_ble_eq_true rfl⟩) hP hD hS hA [0] [1] rfl rfl (by decide) (by decide) [1, 0] (by decide) (fun _ => rfl) (fun r25 u25 H locs h hP hD hS => ?_)
          have hP : va_P (dC, dI) vwCl [(a_sh, .inr (5, [.int thg, .int req, .ref a_ak, .int ocn_7, .ref a_os, .ref a_le])), (a_os, .inl (kA, 24, .inl osF_7))] H := hP
          have hD : va_D A [(a_sh, .inr (5, [.int thg, .int req, .ref a_ak, .int ocn_7, .ref a_os, .ref a_le])), (a_os, .inl (kA, 24, .inl osF_7))] := hD
          obtain ⟨J51, hR51, h⟩ := h
          have hJ51 : ∀ (ocn_51 : Int32) (osF_51 : Nat → Int32), J51 ocn_51 osF_51 → ∀ (H : Heap) (locs : List Loc) (ls : Array Slot), va_P (dC, dI) vwCl [(a_sh, .inr (5, [.int thg, .int req, .ref a_ak, .int ocn_51, .ref a_os, .ref a_le])), (a_os, .inl (kA, 24, .inl osF_51))] H → va_D A [(a_sh, .inr (5, [.int thg, .int req, .ref a_ak, .int ocn_51, .ref a_os, .ref a_le])), (a_os, .inl (kA, 24, .inl osF_51))] → va_S A s.heap H locs → lv_has ls 2 [(0, .ref a_sh), (1, .int v1_7)] → W p l e (headSpec wsX5_findOrders rmX5_findOrders).room s m args below meth c H locs 0 0 Q (F0 m 51 ls []) := by
            intro ocn_51 osF_51 h H locs ls hP hD hS hl
            replace h := hR51 ocn_51 osF_51 h
            refine lv_iinc (v := (v1_7 + (1 : Int32))) (lv' := [(1, .int (v1_7 + (1 : Int32))), (0, .ref a_sh)]) hx hb dX5_findOrders_51 hl (k := 1) rfl (by rfl) (by decide) rfl (fun ls hl => ?_)
            refine lv_goto (tgt := 7) hx hb dX5_findOrders_54 (by decide) ?_
            exact ih7 (v1_7 + (1 : Int32)) ocn_51 osF_51 h _ _ _ hP hD hS (lv_sub hl [1, 0] rfl)
          refine lv_if_eq (tgt := 51) hx hb dX5_findOrders_28 (by decide) (fun c28 => ?_) (fun c28 => ?_)
          · replace h := h.1 c28
            exact hJ51 ocn_7 osF_7 h _ _ _ hP hD hS (lv_sub hl [0, 1] rfl)
          · replace h := h.2 c28
            refine lv_aload_n hx hb dX5_findOrders_31 rfl (lv_at hl 0 rfl) ?_
            refine va_get (D := (dC, dI)) (ci := 5) (v := .ref a_os) (C := RX5) (T := TX5) (N := 6) hx hb hts (fun _ h => List.mem_cons_of_mem _ (List.mem_append_right _ h)) hown hK hP 0 rfl rfl 4 (by decide) (hts (.fieldLink RX5 15 "RentOrBuy$Shelf" "orders" "[I") (List.mem_cons_of_mem _ (List.mem_append_left _ (List.mem_of_getElem? (i := 1) rfl)))) (fun _ h9 => h9) rfl dX5_findOrders_32 ?_
            refine lv_aload_n hx hb dX5_findOrders_35 rfl (lv_at hl 0 rfl) ?_
            refine va_get (D := (dC, dI)) (ci := 5) (v := .int ocn_7) (C := RX5) (T := TX5) (N := 6) hx hb hts (fun _ h => List.mem_cons_of_mem _ (List.mem_append_right _ h)) hown hK hP 0 rfl rfl 3 (by decide) (hts (.fieldLink RX5 31 "RentOrBuy$Shelf" "orderCount" "I") (List.mem_cons_of_mem _ (List.mem_append_left _ (List.mem_of_getElem? (i := 0) rfl)))) (fun _ h9 => h9) rfl dX5_findOrders_36 ?_
            refine lv_iload_n hx hb dX5_findOrders_39 rfl (lv_at hl 1 rfl) ?_
            obtain ⟨hi40, h⟩ := h
            refine va_iast hx hb hK hP hD hS 1 0 rfl rfl hi40 dX5_findOrders_40 (fun H locs hP hD hS => ?_)
            have hP : va_P (dC, dI) vwCl [(a_sh, .inr (5, [.int thg, .int req, .ref a_ak, .int ocn_7, .ref a_os, .ref a_le])), (a_os, .inl (kA, 24, .inl (upd osF_7 ocn_7.toNatClampNeg v1_7)))] H := hP
            have hD : va_D A [(a_sh, .inr (5, [.int thg, .int req, .ref a_ak, .int ocn_7, .ref a_os, .ref a_le])), (a_os, .inl (kA, 24, .inl (upd osF_7 ocn_7.toNatClampNeg v1_7)))] := hD
            refine lv_aload_n hx hb dX5_findOrders_41 rfl (lv_at hl 0 rfl) ?_
            refine lv_dup hx hb dX5_findOrders_42 rfl ?_
            refine va_get (D := (dC, dI)) (ci := 5) (v := .int ocn_7) (C := RX5) (T := TX5) (N := 6) hx hb hts (fun _ h => List.mem_cons_of_mem _ (List.mem_append_right _ h)) hown hK hP 0 rfl rfl 3 (by decide) (hts (.fieldLink RX5 31 "RentOrBuy$Shelf" "orderCount" "I") (List.mem_cons_of_mem _ (List.mem_append_left _ (List.mem_of_getElem? (i := 0) rfl)))) (fun _ h9 => h9) rfl dX5_findOrders_43 ?_
            refine lv_iconst (v := (1 : Int32)) hx hb dX5_findOrders_46 (by decide +kernel) ?_
            refine lv_iadd hx hb dX5_findOrders_47 ?_
            refine va_put (D := (dC, dI)) (ci := 5) (v := .int (ocn_7 + (1 : Int32))) (ty := .int) (C := RX5) (T := TX5) (N := 6) hx hb hts (fun _ h => List.mem_cons_of_mem _ (List.mem_append_right _ h)) tyX5 tyX5_ok nmX5 hown hK hP hD hS 0 rfl rfl 3 (by decide) (hts (.fieldLink RX5 31 "RentOrBuy$Shelf" "orderCount" "I") (List.mem_cons_of_mem _ (List.mem_append_left _ (List.mem_of_getElem? (i := 0) rfl)))) (fun _ h9 => h9) rfl (by decide +kernel) rfl rfl (Nat.le_of_ble_eq_true rfl) dX5_findOrders_48 (fun H locs hP hD hS => ?_)
            have hP : va_P (dC, dI) vwCl [(a_sh, .inr (5, [.int thg, .int req, .ref a_ak, .int (ocn_7 + (1 : Int32)), .ref a_os, .ref a_le])), (a_os, .inl (kA, 24, .inl (upd osF_7 ocn_7.toNatClampNeg v1_7)))] H := hP
            have hD : va_D A [(a_sh, .inr (5, [.int thg, .int req, .ref a_ak, .int (ocn_7 + (1 : Int32)), .ref a_os, .ref a_le])), (a_os, .inl (kA, 24, .inl (upd osF_7 ocn_7.toNatClampNeg v1_7)))] := hD
            exact hJ51 (ocn_7 + (1 : Int32)) (upd osF_7 ocn_7.toNatClampNeg v1_7) h _ _ _ hP hD hS (lv_sub hl [0, 1] rfl)
  exact hL7 n7 (0 : Int32) (0 : Int32) osF h _ _ _ hP hD hS (lv_sub hl [1, 0] rfl)

