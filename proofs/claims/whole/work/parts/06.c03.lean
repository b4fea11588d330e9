/-- RentOrBuy.mean -/
def rmX6_mean : Room := { frames := 2, cells := 0, slots := 0, locals := 54 }
set_option maxHeartbeats 4000000 in
set_option maxRecDepth 100000 in
theorem c_X6_mean (l : Launch) (dC : Nat → ClassId) (dI : Nat → Nat → Nat) (kA : ClassId) (a_x a_pl a_tk a_rs a_lo a_op a_sh a_oe : Nat) (sz : Nat) (trc : Int64) (days : Int32) (tkk : Nat) (tkd : Int32) (tkp : Int32) (tkr : Int32) (tkc : Int32) (rsF : Nat → Int32) (opF : Nat → Int32) (p1 : Int32) (p2 : Int32) (K : Int64 → Prop) (hg : g_X6_mean trc days tkk tkd tkp tkr tkc rsF opF p1 p2 K) : Met l yX6_mean wsX6_mean rmX6_mean (va_Pc [.ref a_x, .int p1, .int p2] (prW (dC, dI) kA sz [(a_x, .inr (6, [.ref a_pl, .ref a_lo, .ref a_sh, .long trc])), (a_pl, .inr (3, [.int days, .ref a_tk, .ref a_rs])), (a_tk, tkE tkk tkd tkp tkr tkc), (a_rs, .inl (kA, 41, .inl rsF)), (a_lo, .inr (2, [.ref a_op, .ref a_oe])), (a_op, .inl (kA, 42, .inl opF))])) (va_Ql (fun (r : Int64) (u : Unit) => K r) (poW (dC, dI) (va_A [(a_x, .inr (6, [.ref a_pl, .ref a_lo, .ref a_sh, .long trc])), (a_pl, .inr (3, [.int days, .ref a_tk, .ref a_rs])), (a_tk, tkE tkk tkd tkp tkr tkc), (a_rs, .inl (kA, 41, .inl rsF)), (a_lo, .inr (2, [.ref a_op, .ref a_oe])), (a_op, .inl (kA, 42, .inl opF))] sz) (fun (u : Unit) => [(a_x, .inr (6, [.ref a_pl, .ref a_lo, .ref a_sh, .long trc])), (a_pl, .inr (3, [.int days, .ref a_tk, .ref a_rs])), (a_tk, tkE tkk tkd tkp tkr tkc), (a_rs, .inl (kA, 41, .inl rsF)), (a_lo, .inr (2, [.ref a_op, .ref a_oe])), (a_op, .inl (kA, 42, .inl opF))])) (va_A [(a_x, .inr (6, [.ref a_pl, .ref a_lo, .ref a_sh, .long trc])), (a_pl, .inr (3, [.int days, .ref a_tk, .ref a_rs])), (a_tk, tkE tkk tkd tkp tkr tkc), (a_rs, .inl (kA, 41, .inl rsF)), (a_lo, .inr (2, [.ref a_op, .ref a_oe])), (a_op, .inl (kA, 42, .inl opF))] sz)) 0 0 (va_A [(a_x, .inr (6, [.ref a_pl, .ref a_lo, .ref a_sh, .long trc])), (a_pl, .inr (3, [.int days, .ref a_tk, .ref a_rs])), (a_tk, tkE tkk tkd tkp tkr tkc), (a_rs, .inl (kA, 41, .inl rsF)), (a_lo, .inr (2, [.ref a_op, .ref a_oe])), (a_op, .inl (kA, 42, .inl opF))] sz) := by
  refine Met.ofW (cc := cX6_mean) (maxL := 4) (ret := (some .long)) (by decide) rfl ?_
  intro p e s m args below meth c s₁ B hml hv
  obtain ⟨hargs, hsz, hP, hK, hD0, hN⟩ := hv
  have hx := B.exec
  have hb := B.bytes
  have hr := B.returns
  have hts := atoms_spec (ws := wsX6_mean) B.pre
  have hown : s.vm.findClass RX6 = some m.cls := findClass_of_methodNamed B.named
  have hlocks := B.notSynchronized
  subst hsz
  have hD := hD0.self (sz := s.heap.size)
  generalize hAe : va_A [(a_x, .inr (6, [.ref a_pl, .ref a_lo, .ref a_sh, .long trc])), (a_pl, .inr (3, [.int days, .ref a_tk, .ref a_rs])), (a_tk, tkE tkk tkd tkp tkr tkc), (a_rs, .inl (kA, 41, .inl rsF)), (a_lo, .inr (2, [.ref a_op, .ref a_oe])), (a_op, .inl (kA, 42, .inl opF))] s.heap.size = A at hD ⊢
  have hA : ∀ q : Nat, s.heap.size ≤ q → A q := fun q h => by rw [← hAe]; exact Or.inr h
  have hS : va_S A s.heap s.heap [] := va_S.rf
  obtain ⟨Q, hQ⟩ : ∃ Q : State → Prop, Q = MQ below (va_Ql (fun (r : Int64) (u : Unit) => K r) (poW (dC, dI) A (fun (u : Unit) => [(a_x, .inr (6, [.ref a_pl, .ref a_lo, .ref a_sh, .long trc])), (a_pl, .inr (3, [.int days, .ref a_tk, .ref a_rs])), (a_tk, tkE tkk tkd tkp tkr tkc), (a_rs, .inl (kA, 41, .inl rsF)), (a_lo, .inr (2, [.ref a_op, .ref a_oe])), (a_op, .inl (kA, 42, .inl opF))])) A) args s 0 0 A := ⟨_, rfl⟩
  rw [← hQ]
  have hP : va_P (dC, dI) vwCl [(a_x, .inr (6, [.ref a_pl, .ref a_lo, .ref a_sh, .long trc])), (a_pl, .inr (3, [.int days, .ref a_tk, .ref a_rs])), (a_tk, tkE tkk tkd tkp tkr tkc), (a_rs, .inl (kA, 41, .inl rsF)), (a_lo, .inr (2, [.ref a_op, .ref a_oe])), (a_op, .inl (kA, 42, .inl opF))] s.heap := hP
  refine en_ok hargs (Nat.le_of_ble_eq_true rfl) (fun ls hl => ?_)
  have hl : lv_has ls 4 [(0, .ref a_x), (1, .int p1), (2, .int p2)] := hl
  have h := hg
  unfold g_X6_mean at h
  refine lv_aload_n hx hb dX6_mean_0 rfl (lv_at hl 0 rfl) ?_
  refine va_get (D := (dC, dI)) (ci := 6) (v := .ref a_pl) (C := RX6) (T := TX6) (N := 4) hx hb hts (fun _ h => List.mem_cons_of_mem _ (List.mem_append_left _ (List.mem_append_left _ (List.mem_append_left _ (List.mem_append_left _ (List.mem_append_left _ (List.mem_append_right _ h))))))) hown hK hP 0 rfl rfl 0 (by decide) (hts (.fieldLink RX6 10 "RentOrBuy" "plans" "LRentOrBuy$Plans;") (List.mem_cons_of_mem _ (List.mem_append_left _ (List.mem_append_left _ (List.mem_append_left _ (List.mem_append_left _ (List.mem_append_left _ (List.mem_append_left _ (List.mem_of_getElem? (i := 0) rfl))))))))) (fun _ h9 => h9) rfl dX6_mean_1 ?_
  refine lv_iload_n hx hb dX6_mean_4 rfl (lv_at hl 1 rfl) ?_
  have hPc := hP.sub (ws' := [(a_pl, .inr (3, [.int days, .ref a_tk, .ref a_rs]))]) [1] rfl
  have hDc := hD.sub (ws' := [(a_pl, .inr (3, [.int days, .ref a_tk, .ref a_rs]))]) [1] (by decide) rfl
  refine fr_i (wr := [(a_x, .inr (6, [.ref a_pl, .ref a_lo, .ref a_sh, .long trc])), (a_tk, tkE tkk tkd tkp tkr tkc), (a_rs, .inl (kA, 41, .inl rsF)), (a_lo, .inr (2, [.ref a_op, .ref a_oe])), (a_op, .inl (kA, 42, .inl opF))]) (WN := fun (u5 : Unit) => [(a_x, .inr (6, [.ref a_pl, .ref a_lo, .ref a_sh, .long trc])), (a_pl, .inr (3, [.int days, .ref a_tk, .ref a_rs])), (a_tk, tkE tkk tkd tkp tkr tkc), (a_rs, .inl (kA, 41, .inl rsF)), (a_lo, .inr (2, [.ref a_op, .ref a_oe])), (a_op, .inl (kA, 42, .inl opF))]) (va_runV (As := [.int p1]) (rest := []) ⟨hx, hb, hml, hown, hts⟩ (c_X3_isEnd l dC dI kA a_pl a_tk a_rs s.heap.size days p1 _ h) (cwV 1 hts gX6_mean_X3_isEnd rfl rfl rfl (by decide +kernel) ⟨Nat.le_of_ble_eq_true rfl, Nat.le_of_ble_eq_true rfl⟩) (prW.preV (ci := 3) (q0 := 0) hPc hDc hK hN rfl rfl) rfl rfl hl.1 rfl (lv_room (Nat.le_of_ble_eq_true rfl)) dX6_mean_5 ⟨Nat.le_of_ble_eq_true rfl, Nat.le_of_ble_eq_true rfl⟩) hP hD hS hA [1] [0, 2, 3, 4, 5] rfl rfl (by decide) (by decide) [0, 5, 1, 2, 3, 4] (by decide) (fun _ => rfl) (fun r5 u5 H locs h hP hD hS => ?_)
  have hP : va_P (dC, dI) vwCl [(a_x, .inr (6, [.ref a_pl, .ref a_lo, .ref a_sh, .long trc])), (a_pl, .inr (3, [.int days, .ref a_tk, .ref a_rs])), (a_tk, tkE tkk tkd tkp tkr tkc), (a_rs, .inl (kA, 41, .inl rsF)), (a_lo, .inr (2, [.ref a_op, .ref a_oe])), (a_op, .inl (kA, 42, .inl opF))] H := hP
  have hD : va_D A [(a_x, .inr (6, [.ref a_pl, .ref a_lo, .ref a_sh, .long trc])), (a_pl, .inr (3, [.int days, .ref a_tk, .ref a_rs])), (a_tk, tkE tkk tkd tkp tkr tkc), (a_rs, .inl (kA, 41, .inl rsF)), (a_lo, .inr (2, [.ref a_op, .ref a_oe])), (a_op, .inl (kA, 42, .inl opF))] := hD
  refine lv_if_eq (tgt := 20) hx hb dX6_mean_8 (by decide) (fun c8 => ?_) (fun c8 => ?_)
  · replace h := h.1 c8
    refine lv_ldc2 (v := (-1 : Int64)) hx hb hown (hts (.constantLong RX6 111 (-1)) (List.mem_cons_of_mem _ (List.mem_append_left _ (List.mem_append_left _ (List.mem_append_left _ (List.mem_append_left _ (List.mem_append_left _ (List.mem_append_left _ (List.mem_of_getElem? (i := 1) rfl))))))))) dX6_mean_20 ?_
    rw [hQ]
    exact rt_l () hx hb hr hlocks h hP hD hS dX6_mean_23
  · replace h := h.2 c8
    refine lv_iload_n hx hb dX6_mean_11 rfl (lv_at hl 2 rfl) ?_
    refine lv_iconst (v := (0 : Int32)) hx hb dX6_mean_12 (by decide +kernel) ?_
    refine lv_iconst (v := (1 : Int32)) hx hb dX6_mean_13 (by decide +kernel) ?_
    have hPc := hP.sub (ws' := []) [] rfl
    have hDc := hD.sub (ws' := []) [] (by decide) rfl
    refine fr_i (wr := [(a_x, .inr (6, [.ref a_pl, .ref a_lo, .ref a_sh, .long trc])), (a_pl, .inr (3, [.int days, .ref a_tk, .ref a_rs])), (a_tk, tkE tkk tkd tkp tkr tkc), (a_rs, .inl (kA, 41, .inl rsF)), (a_lo, .inr (2, [.ref a_op, .ref a_oe])), (a_op, .inl (kA, 42, .inl opF))]) (WN := fun (u14 : Unit) => [(a_x, .inr (6, [.ref a_pl, .ref a_lo, .ref a_sh, .long trc])), (a_pl, .inr (3, [.int days, .ref a_tk, .ref a_rs])), (a_tk, tkE tkk tkd tkp tkr tkc), (a_rs, .inl (kA, 41, .inl rsF)), (a_lo, .inr (2, [.ref a_op, .ref a_oe])), (a_op, .inl (kA, 42, .inl opF))]) (va_runS (As := [.int p2, .int (0 : Int32), .int (1 : Int32)]) (rest := []) ⟨hx, hb, hml, hown, hts⟩ (c_X6_isWithin l dC dI kA H.size p2 (0 : Int32) (1 : Int32) _ h) (va_cwS 3 hts gX6_mean_X6_isWithin rfl rfl rfl (by decide +kernel) ⟨Nat.le_of_ble_eq_true rfl, Nat.le_of_ble_eq_true rfl⟩) (prW.preS hPc hDc hK hN) rfl rfl hl.1 rfl (lv_room (Nat.le_of_ble_eq_true rfl)) dX6_mean_14 ⟨Nat.le_of_ble_eq_true rfl, Nat.le_of_ble_eq_true rfl⟩) hP hD hS hA [] [0, 1, 2, 3, 4, 5] rfl rfl (by decide) (by decide) [0, 1, 2, 3, 4, 5] (by decide) (fun _ => rfl) (fun r14 u14 H locs h hP hD hS => ?_)
    have hP : va_P (dC, dI) vwCl [(a_x, .inr (6, [.ref a_pl, .ref a_lo, .ref a_sh, .long trc])), (a_pl, .inr (3, [.int days, .ref a_tk, .ref a_rs])), (a_tk, tkE tkk tkd tkp tkr tkc), (a_rs, .inl (kA, 41, .inl rsF)), (a_lo, .inr (2, [.ref a_op, .ref a_oe])), (a_op, .inl (kA, 42, .inl opF))] H := hP
    have hD : va_D A [(a_x, .inr (6, [.ref a_pl, .ref a_lo, .ref a_sh, .long trc])), (a_pl, .inr (3, [.int days, .ref a_tk, .ref a_rs])), (a_tk, tkE tkk tkd tkp tkr tkc), (a_rs, .inl (kA, 41, .inl rsF)), (a_lo, .inr (2, [.ref a_op, .ref a_oe])), (a_op, .inl (kA, 42, .inl opF))] := hD
    refine lv_if_ne (tgt := 24) hx hb dX6_mean_17 (by decide) (fun c17 => ?_) (fun c17 => ?_)
    · replace h := h.1 c17
      refine lv_aload_n hx hb dX6_mean_24 rfl (lv_at hl 0 rfl) ?_
      refine va_get (D := (dC, dI)) (ci := 6) (v := .ref a_lo) (C := RX6) (T := TX6) (N := 4) hx hb hts (fun _ h => List.mem_cons_of_mem _ (List.mem_append_left _ (List.mem_append_left _ (List.mem_append_left _ (List.mem_append_left _ (List.mem_append_left _ (List.mem_append_right _ h))))))) hown hK hP 0 rfl rfl 1 (by decide) (hts (.fieldLink RX6 19 "RentOrBuy" "lots" "LRentOrBuy$Lots;") (List.mem_cons_of_mem _ (List.mem_append_left _ (List.mem_append_left _ (List.mem_append_left _ (List.mem_append_left _ (List.mem_append_left _ (List.mem_append_left _ (List.mem_of_getElem? (i := 2) rfl))))))))) (fun _ h9 => h9) rfl dX6_mean_25 ?_
      refine va_getN (D := (dC, dI)) (ci := 2) (v := .ref a_op) (C := RX2) (T := TX2) (N := 2) hx hb hts (fun _ h => List.mem_cons_of_mem _ (List.mem_append_left _ (List.mem_append_left _ (List.mem_append_left _ (List.mem_append_left _ (List.mem_append_right _ h)))))) hown hK hP 4 rfl rfl 0 (by decide) (hN.f 4 rfl) (fun _ h9 => h9) rfl dX6_mean_28 ?_
      have hPc := hP.sub (ws' := [(a_op, .inl (kA, 42, .inl opF))]) [5] rfl
      have hDc := hD.sub (ws' := [(a_op, .inl (kA, 42, .inl opF))]) [5] (by decide) rfl
      refine fr_i (wr := [(a_x, .inr (6, [.ref a_pl, .ref a_lo, .ref a_sh, .long trc])), (a_pl, .inr (3, [.int days, .ref a_tk, .ref a_rs])), (a_tk, tkE tkk tkd tkp tkr tkc), (a_rs, .inl (kA, 41, .inl rsF)), (a_lo, .inr (2, [.ref a_op, .ref a_oe]))]) (WN := fun (u31 : Unit) => [(a_x, .inr (6, [.ref a_pl, .ref a_lo, .ref a_sh, .long trc])), (a_pl, .inr (3, [.int days, .ref a_tk, .ref a_rs])), (a_tk, tkE tkk tkd tkp tkr tkc), (a_rs, .inl (kA, 41, .inl rsF)), (a_lo, .inr (2, [.ref a_op, .ref a_oe])), (a_op, .inl (kA, 42, .inl opF))]) (va_runS (As := [.ref a_op]) (rest := []) ⟨hx, hb, hml, hown, hts⟩ (c_X2_total l dC dI kA a_op H.size opF _ h) (va_cwS 1 hts gX6_mean_X2_total rfl rfl rfl (by decide +kernel) ⟨Nat.le_of_ble_eq_true rfl, Nat.le_of_ble_eq_true rfl⟩) (prW.preS hPc hDc hK hN) rfl rfl hl.1 rfl (lv_room (Nat.le_of_ble_eq_true rfl)) dX6_mean_31 ⟨Nat.le_of_ble_eq_true rfl, Nat.le_of_ble_eq_true rfl⟩) hP hD hS hA [5] [0, 1, 2, 3, 4] rfl rfl (by decide) (by decide) [0, 1, 2, 3, 4, 5] (by decide) (fun _ => rfl) (fun r31 u31 H locs h hP hD hS => ?_)
      have hP : va_P (dC, dI) vwCl [(a_x, .inr (6, [.ref a_pl, .ref a_lo, .ref a_sh, .long trc])), (a_pl, .inr (3, [.int days, .ref a_tk, .ref a_rs])), (a_tk, tkE tkk tkd tkp tkr tkc), (a_rs, .inl (kA, 41, .inl rsF)), (a_lo, .inr (2, [.ref a_op, .ref a_oe])), (a_op, .inl (kA, 42, .inl opF))] H := hP
      have hD : va_D A [(a_x, .inr (6, [.ref a_pl, .ref a_lo, .ref a_sh, .long trc])), (a_pl, .inr (3, [.int days, .ref a_tk, .ref a_rs])), (a_tk, tkE tkk tkd tkp tkr tkc), (a_rs, .inl (kA, 41, .inl rsF)), (a_lo, .inr (2, [.ref a_op, .ref a_oe])), (a_op, .inl (kA, 42, .inl opF))] := hD
      refine lv_istore_n (lv' := [(3, .int r31), (0, .ref a_x), (1, .int p1), (2, .int p2)]) hx hb dX6_mean_34 rfl hl (by decide) rfl (fun ls hl => ?_)
      refine lv_iload_n hx hb dX6_mean_35 rfl (lv_at hl 0 rfl) ?_
      refine lv_if_ne (tgt := 43) hx hb dX6_mean_36 (by decide) (fun c36 => ?_) (fun c36 => ?_)
      · replace h := h.1 c36
        refine lv_aload_n hx hb dX6_mean_43 rfl (lv_at hl 1 rfl) ?_
        refine va_get (D := (dC, dI)) (ci := 6) (v := .ref a_lo) (C := RX6) (T := TX6) (N := 4) hx hb hts (fun _ h => List.mem_cons_of_mem _ (List.mem_append_left _ (List.mem_append_left _ (List.mem_append_left _ (List.mem_append_left _ (List.mem_append_left _ (List.mem_append_right _ h))))))) hown hK hP 0 rfl rfl 1 (by decide) (hts (.fieldLink RX6 19 "RentOrBuy" "lots" "LRentOrBuy$Lots;") (List.mem_cons_of_mem _ (List.mem_append_left _ (List.mem_append_left _ (List.mem_append_left _ (List.mem_append_left _ (List.mem_append_left _ (List.mem_append_left _ (List.mem_of_getElem? (i := 2) rfl))))))))) (fun _ h9 => h9) rfl dX6_mean_44 ?_
        refine lv_aload_n hx hb dX6_mean_47 rfl (lv_at hl 1 rfl) ?_
        refine va_get (D := (dC, dI)) (ci := 6) (v := .ref a_pl) (C := RX6) (T := TX6) (N := 4) hx hb hts (fun _ h => List.mem_cons_of_mem _ (List.mem_append_left _ (List.mem_append_left _ (List.mem_append_left _ (List.mem_append_left _ (List.mem_append_left _ (List.mem_append_right _ h))))))) hown hK hP 0 rfl rfl 0 (by decide) (hts (.fieldLink RX6 10 "RentOrBuy" "plans" "LRentOrBuy$Plans;") (List.mem_cons_of_mem _ (List.mem_append_left _ (List.mem_append_left _ (List.mem_append_left _ (List.mem_append_left _ (List.mem_append_left _ (List.mem_append_left _ (List.mem_of_getElem? (i := 0) rfl))))))))) (fun _ h9 => h9) rfl dX6_mean_48 ?_
        refine lv_iload_n hx hb dX6_mean_51 rfl (lv_at hl 2 rfl) ?_
        have hPc := hP.sub (ws' := [(a_pl, .inr (3, [.int days, .ref a_tk, .ref a_rs])), (a_tk, tkE tkk tkd tkp tkr tkc), (a_rs, .inl (kA, 41, .inl rsF)), (a_lo, .inr (2, [.ref a_op, .ref a_oe])), (a_op, .inl (kA, 42, .inl opF))]) [1, 2, 3, 4, 5] rfl
        have hDc := hD.sub (ws' := [(a_pl, .inr (3, [.int days, .ref a_tk, .ref a_rs])), (a_tk, tkE tkk tkd tkp tkr tkc), (a_rs, .inl (kA, 41, .inl rsF)), (a_lo, .inr (2, [.ref a_op, .ref a_oe])), (a_op, .inl (kA, 42, .inl opF))]) [1, 2, 3, 4, 5] (by decide) rfl
        refine fr_l (wr := [(a_x, .inr (6, [.ref a_pl, .ref a_lo, .ref a_sh, .long trc]))]) (WN := fun (u52 : Unit) => [(a_x, .inr (6, [.ref a_pl, .ref a_lo, .ref a_sh, .long trc])), (a_pl, .inr (3, [.int days, .ref a_tk, .ref a_rs])), (a_tk, tkE tkk tkd tkp tkr tkc), (a_rs, .inl (kA, 41, .inl rsF)), (a_lo, .inr (2, [.ref a_op, .ref a_oe])), (a_op, .inl (kA, 42, .inl opF))]) (va_runV (As := [.ref a_pl, .int p1]) (rest := []) ⟨hx, hb, hml, hown, hts⟩ (c_X2_costsBy l dC dI kA a_pl a_tk a_rs a_lo a_op a_oe H.size days tkk tkd tkp tkr tkc rsF opF p1 _ h) (cwV 2 hts gX6_mean_X2_costsBy rfl rfl rfl (by decide +kernel) ⟨Nat.le_of_ble_eq_true rfl, Nat.le_of_ble_eq_true rfl⟩) (prW.preV (ci := 2) (q0 := 3) hPc hDc hK hN rfl rfl) rfl rfl hl.1 rfl (lv_room (Nat.le_of_ble_eq_true rfl)) dX6_mean_52 ⟨Nat.le_of_ble_eq_true rfl, Nat.le_of_ble_eq_true rfl⟩) hP hD hS hA [1, 2, 3, 4, 5] [0] rfl rfl (by decide) (by decide) [0, 1, 2, 3, 4, 5] (by decide) (fun _ => rfl) (fun r52 u52 H locs h hP hD hS => ?_)
        have hP : va_P (dC, dI) vwCl [(a_x, .inr (6, [.ref a_pl, .ref a_lo, .ref a_sh, .long trc])), (a_pl, .inr (3, [.int days, .ref a_tk, .ref a_rs])), (a_tk, tkE tkk tkd tkp tkr tkc), (a_rs, .inl (kA, 41, .inl rsF)), (a_lo, .inr (2, [.ref a_op, .ref a_oe])), (a_op, .inl (kA, 42, .inl opF))] H := hP
        have hD : va_D A [(a_x, .inr (6, [.ref a_pl, .ref a_lo, .ref a_sh, .long trc])), (a_pl, .inr (3, [.int days, .ref a_tk, .ref a_rs])), (a_tk, tkE tkk tkd tkp tkr tkc), (a_rs, .inl (kA, 41, .inl rsF)), (a_lo, .inr (2, [.ref a_op, .ref a_oe])), (a_op, .inl (kA, 42, .inl opF))] := hD
        refine lv_aload_n hx hb dX6_mean_55 rfl (lv_at hl 1 rfl) ?_
        refine va_get (D := (dC, dI)) (ci := 6) (v := .ref a_pl) (C := RX6) (T := TX6) (N := 4) hx hb hts (fun _ h => List.mem_cons_of_mem _ (List.mem_append_left _ (List.mem_append_left _ (List.mem_append_left _ (List.mem_append_left _ (List.mem_append_left _ (List.mem_append_right _ h))))))) hown hK hP 0 rfl rfl 0 (by decide) (hts (.fieldLink RX6 10 "RentOrBuy" "plans" "LRentOrBuy$Plans;") (List.mem_cons_of_mem _ (List.mem_append_left _ (List.mem_append_left _ (List.mem_append_left _ (List.mem_append_left _ (List.mem_append_left _ (List.mem_append_left _ (List.mem_of_getElem? (i := 0) rfl))))))))) (fun _ h9 => h9) rfl dX6_mean_56 ?_
        refine lv_iload_n hx hb dX6_mean_59 rfl (lv_at hl 2 rfl) ?_
        have hPc := hP.sub (ws' := [(a_pl, .inr (3, [.int days, .ref a_tk, .ref a_rs])), (a_tk, tkE tkk tkd tkp tkr tkc), (a_rs, .inl (kA, 41, .inl rsF))]) [1, 2, 3] rfl
        have hDc := hD.sub (ws' := [(a_pl, .inr (3, [.int days, .ref a_tk, .ref a_rs])), (a_tk, tkE tkk tkd tkp tkr tkc), (a_rs, .inl (kA, 41, .inl rsF))]) [1, 2, 3] (by decide) rfl
        refine fr_i (wr := [(a_x, .inr (6, [.ref a_pl, .ref a_lo, .ref a_sh, .long trc])), (a_lo, .inr (2, [.ref a_op, .ref a_oe])), (a_op, .inl (kA, 42, .inl opF))]) (WN := fun (u60 : Unit) => [(a_x, .inr (6, [.ref a_pl, .ref a_lo, .ref a_sh, .long trc])), (a_pl, .inr (3, [.int days, .ref a_tk, .ref a_rs])), (a_tk, tkE tkk tkd tkp tkr tkc), (a_rs, .inl (kA, 41, .inl rsF)), (a_lo, .inr (2, [.ref a_op, .ref a_oe])), (a_op, .inl (kA, 42, .inl opF))]) (va_runV (As := [.int p1]) (rest := [.long r52]) ⟨hx, hb, hml, hown, hts⟩ (c_X3_knownBy l dC dI kA a_pl a_tk a_rs H.size days tkk tkd tkp tkr tkc rsF p1 _ h) (cwV 1 hts gX6_mean_X3_knownBy rfl rfl rfl (by decide +kernel) ⟨Nat.le_of_ble_eq_true rfl, Nat.le_of_ble_eq_true rfl⟩) (prW.preV (ci := 3) (q0 := 0) hPc hDc hK hN rfl rfl) rfl rfl hl.1 rfl (lv_room (Nat.le_of_ble_eq_true rfl)) dX6_mean_60 ⟨Nat.le_of_ble_eq_true rfl, Nat.le_of_ble_eq_true rfl⟩) hP hD hS hA [1, 2, 3] [0, 4, 5] rfl rfl (by decide) (by decide) [0, 3, 4, 5, 1, 2] (by decide) (fun _ => rfl) (fun r60 u60 H locs h hP hD hS => ?_)
        have hP : va_P (dC, dI) vwCl [(a_x, .inr (6, [.ref a_pl, .ref a_lo, .ref a_sh, .long trc])), (a_pl, .inr (3, [.int days, .ref a_tk, .ref a_rs])), (a_tk, tkE tkk tkd tkp tkr tkc), (a_rs, .inl (kA, 41, .inl rsF)), (a_lo, .inr (2, [.ref a_op, .ref a_oe])), (a_op, .inl (kA, 42, .inl opF))] H := hP
        have hD : va_D A [(a_x, .inr (6, [.ref a_pl, .ref a_lo, .ref a_sh, .long trc])), (a_pl, .inr (3, [.int days, .ref a_tk, .ref a_rs])), (a_tk, tkE tkk tkd tkp tkr tkc), (a_rs, .inl (kA, 41, .inl rsF)), (a_lo, .inr (2, [.ref a_op, .ref a_oe])), (a_op, .inl (kA, 42, .inl opF))] := hD
        refine lv_i2l hx hb dX6_mean_63 rfl ?_
        refine lv_iload_n hx hb dX6_mean_64 rfl (lv_at hl 0 rfl) ?_
        refine lv_i2l hx hb dX6_mean_65 rfl ?_
        refine lv_lmul hx hb dX6_mean_66 ?_
        refine lv_iload_n hx hb dX6_mean_67 rfl (lv_at hl 3 rfl) ?_
        have hPc := hP.sub (ws' := []) [] rfl
        have hDc := hD.sub (ws' := []) [] (by decide) rfl
        refine fr_l (wr := [(a_x, .inr (6, [.ref a_pl, .ref a_lo, .ref a_sh, .long trc])), (a_pl, .inr (3, [.int days, .ref a_tk, .ref a_rs])), (a_tk, tkE tkk tkd tkp tkr tkc), (a_rs, .inl (kA, 41, .inl rsF)), (a_lo, .inr (2, [.ref a_op, .ref a_oe])), (a_op, .inl (kA, 42, .inl opF))]) (WN := fun (u68 : Unit) => [(a_x, .inr (6, [.ref a_pl, .ref a_lo, .ref a_sh, .long trc])), (a_pl, .inr (3, [.int days, .ref a_tk, .ref a_rs])), (a_tk, tkE tkk tkd tkp tkr tkc), (a_rs, .inl (kA, 41, .inl rsF)), (a_lo, .inr (2, [.ref a_op, .ref a_oe])), (a_op, .inl (kA, 42, .inl opF))]) (va_runS (As := [.long r52, .long (r60.toInt64 * r31.toInt64), .int p2]) (rest := []) ⟨hx, hb, hml, hown, hts⟩ (c_X6_leastForm l dC dI kA H.size r52 (r60.toInt64 * r31.toInt64) p2 _ h) (va_cwS 3 hts gX6_mean_X6_leastForm rfl rfl rfl (by decide +kernel) ⟨Nat.le_of_ble_eq_true rfl, Nat.le_of_ble_eq_true rfl⟩) (prW.preS hPc hDc hK hN) rfl rfl hl.1 rfl (lv_room (Nat.le_of_ble_eq_true rfl)) dX6_mean_68 ⟨Nat.le_of_ble_eq_true rfl, Nat.le_of_ble_eq_true rfl⟩) hP hD hS hA [] [0, 1, 2, 3, 4, 5] rfl rfl (by decide) (by decide) [0, 1, 2, 3, 4, 5] (by decide) (fun _ => rfl) (fun r68 u68 H locs h hP hD hS => ?_)
        have hP : va_P (dC, dI) vwCl [(a_x, .inr (6, [.ref a_pl, .ref a_lo, .ref a_sh, .long trc])), (a_pl, .inr (3, [.int days, .ref a_tk, .ref a_rs])), (a_tk, tkE tkk tkd tkp tkr tkc), (a_rs, .inl (kA, 41, .inl rsF)), (a_lo, .inr (2, [.ref a_op, .ref a_oe])), (a_op, .inl (kA, 42, .inl opF))] H := hP
        have hD : va_D A [(a_x, .inr (6, [.ref a_pl, .ref a_lo, .ref a_sh, .long trc])), (a_pl, .inr (3, [.int days, .ref a_tk, .ref a_rs])), (a_tk, tkE tkk tkd tkp tkr tkc), (a_rs, .inl (kA, 41, .inl rsF)), (a_lo, .inr (2, [.ref a_op, .ref a_oe])), (a_op, .inl (kA, 42, .inl opF))] := hD
        rw [hQ]
        exact rt_l () hx hb hr hlocks h hP hD hS dX6_mean_71
      · replace h := h.2 c36
        refine lv_ldc2 (v := (-2 : Int64)) hx hb hown (hts (.constantLong RX6 117 (-2)) (List.mem_cons_of_mem _ (List.mem_append_left _ (List.mem_append_left _ (List.mem_append_left _ (List.mem_append_left _ (List.mem_append_left _ (List.mem_append_left _ (List.mem_of_getElem? (i := 3) rfl))))))))) dX6_mean_39 ?_
        rw [hQ]
        exact rt_l () hx hb hr hlocks h hP hD hS dX6_mean_42
    · replace h := h.2 c17
      refine lv_ldc2 (v := (-1 : Int64)) hx hb hown (hts (.constantLong RX6 111 (-1)) (List.mem_cons_of_mem _ (List.mem_append_left _ (List.mem_append_left _ (List.mem_append_left _ (List.mem_append_left _ (List.mem_append_left _ (List.mem_append_left _ (List.mem_of_getElem? (i := 1) rfl))))))))) dX6_mean_20 ?_
      rw [hQ]
      exact rt_l () hx hb hr hlocks h hP hD hS dX6_mean_23

/-- RentOrBuy.offer -/
def rmX6_offer : Room := { frames := 4, cells := 1, slots := 4, locals := 85 }
set_option maxHeartbeats 4000000 in
set_option maxRecDepth 100000 in
theorem c_X6_offer (l : Launch) (dC : Nat → ClassId) (dI : Nat → Nat → Nat) (kA : ClassId) (a_x a_pl a_tk a_rs a_lo a_sh : Nat) (sz : Nat) (trc : Int64) (days : Int32) (tkk : Nat) (tkd : Int32) (tkp : Int32) (tkr : Int32) (tkc : Int32) (rsF : Nat → Int32) (p1 : Int32) (p2 : Int32) (p3 : Int32) (p4 : Int32) (p5 : Int32) (K : Int32 → Nat → Int32 → Int32 → Int32 → Int32 → (Nat → Int32) → Prop) (hg : g_X6_offer trc days tkk tkd tkp tkr tkc rsF p1 p2 p3 p4 p5 K) : Met l yX6_offer wsX6_offer rmX6_offer (va_Pc [.ref a_x, .int p1, .int p2, .int p3, .int p4, .int p5] (prW (dC, dI) kA sz [(a_x, .inr (6, [.ref a_pl, .ref a_lo, .ref a_sh, .long trc])), (a_pl, .inr (3, [.int days, .ref a_tk, .ref a_rs])), (a_tk, tkE tkk tkd tkp tkr tkc), (a_rs, .inl (kA, 41, .inl rsF))])) (va_Qi (fun (r : Int32) (u : Nat × Int32 × Int32 × Int32 × Int32 × (Nat → Int32) × Nat) => K r u.1 u.2.1 u.2.2.1 u.2.2.2.1 u.2.2.2.2.1 u.2.2.2.2.2.1) (poW (dC, dI) (va_A [(a_x, .inr (6, [.ref a_pl, .ref a_lo, .ref a_sh, .long trc])), (a_pl, .inr (3, [.int days, .ref a_tk, .ref a_rs])), (a_tk, tkE tkk tkd tkp tkr tkc), (a_rs, .inl (kA, 41, .inl rsF))] sz) (fun (u : Nat × Int32 × Int32 × Int32 × Int32 × (Nat → Int32) × Nat) => [(a_x, .inr (6, [.ref a_pl, .ref a_lo, .ref a_sh, .long trc])), (a_pl, .inr (3, [.int days, .ref u.2.2.2.2.2.2, .ref a_rs])), (u.2.2.2.2.2.2, tkE u.1 u.2.1 u.2.2.1 u.2.2.2.1 u.2.2.2.2.1), (a_rs, .inl (kA, 41, .inl u.2.2.2.2.2.1))])) (va_A [(a_x, .inr (6, [.ref a_pl, .ref a_lo, .ref a_sh, .long trc])), (a_pl, .inr (3, [.int days, .ref a_tk, .ref a_rs])), (a_tk, tkE tkk tkd tkp tkr tkc), (a_rs, .inl (kA, 41, .inl rsF))] sz)) 1 4 (va_A [(a_x, .inr (6, [.ref a_pl, .ref a_lo, .ref a_sh, .long trc])), (a_pl, .inr (3, [.int days, .ref a_tk, .ref a_rs])), (a_tk, tkE tkk tkd tkp tkr tkc), (a_rs, .inl (kA, 41, .inl rsF))] sz) := by
  refine Met.ofW (cc := cX6_offer) (maxL := 6) (ret := (some .int)) (by decide) rfl ?_
  intro p e s m args below meth c s₁ B hml hv
  obtain ⟨hargs, hsz, hP, hK, hD0, hN⟩ := hv
  have hx := B.exec
  have hb := B.bytes
  have hr := B.returns
  have hts := atoms_spec (ws := wsX6_offer) B.pre
  have hown : s.vm.findClass RX6 = some m.cls := findClass_of_methodNamed B.named
  have hlocks := B.notSynchronized
  subst hsz
  have hD := hD0.self (sz := s.heap.size)
  generalize hAe : va_A [(a_x, .inr (6, [.ref a_pl, .ref a_lo, .ref a_sh, .long trc])), (a_pl, .inr (3, [.int days, .ref a_tk, .ref a_rs])), (a_tk, tkE tkk tkd tkp tkr tkc), (a_rs, .inl (kA, 41, .inl rsF))] s.heap.size = A at hD ⊢
  have hA : ∀ q : Nat, s.heap.size ≤ q → A q := fun q h => by rw [← hAe]; exact Or.inr h
  have hS : va_S A s.heap s.heap [] := va_S.rf
  obtain ⟨Q, hQ⟩ : ∃ Q : State → Prop, Q = MQ below (va_Qi (fun (r : Int32) (u : Nat × Int32 × Int32 × Int32 × Int32 × (Nat → Int32) × Nat) => K r u.1 u.2.1 u.2.2.1 u.2.2.2.1 u.2.2.2.2.1 u.2.2.2.2.2.1) (poW (dC, dI) A (fun (u : Nat × Int32 × Int32 × Int32 × Int32 × (Nat → Int32) × Nat) => [(a_x, .inr (6, [.ref a_pl, .ref a_lo, .ref a_sh, .long trc])), (a_pl, .inr (3, [.int days, .ref u.2.2.2.2.2.2, .ref a_rs])), (u.2.2.2.2.2.2, tkE u.1 u.2.1 u.2.2.1 u.2.2.2.1 u.2.2.2.2.1), (a_rs, .inl (kA, 41, .inl u.2.2.2.2.2.1))])) A) args s 1 4 A := ⟨_, rfl⟩
  rw [← hQ]
  have hP : va_P (dC, dI) vwCl [(a_x, .inr (6, [.ref a_pl, .ref a_lo, .ref a_sh, .long trc])), (a_pl, .inr (3, [.int days, .ref a_tk, .ref a_rs])), (a_tk, tkE tkk tkd tkp tkr tkc), (a_rs, .inl (kA, 41, .inl rsF))] s.heap := hP
  refine en_ok hargs (Nat.le_of_ble_eq_true rfl) (fun ls hl => ?_)
  have hl : lv_has ls 6 [(0, .ref a_x), (1, .int p1), (2, .int p2), (3, .int p3), (4, .int p4), (5, .int p5)] := hl
  have h := hg
  unfold g_X6_offer at h
  refine lv_iload_n hx hb dX6_offer_0 rfl (lv_at hl 1 rfl) ?_
  refine lv_iconst (v := (0 : Int32)) hx hb dX6_offer_1 (by decide +kernel) ?_
  refine lv_iconst (v := (2 : Int32)) hx hb dX6_offer_2 (by decide +kernel) ?_
  have hPc := hP.sub (ws' := []) [] rfl
  have hDc := hD.sub (ws' := []) [] (by decide) rfl
  refine fr_i (wr := [(a_x, .inr (6, [.ref a_pl, .ref a_lo, .ref a_sh, .long trc])), (a_pl, .inr (3, [.int days, .ref a_tk, .ref a_rs])), (a_tk, tkE tkk tkd tkp tkr tkc), (a_rs, .inl (kA, 41, .inl rsF))]) (WN := fun (u3 : Unit) => [(a_x, .inr (6, [.ref a_pl, .ref a_lo, .ref a_sh, .long trc])), (a_pl, .inr (3, [.int days, .ref a_tk, .ref a_rs])), (a_tk, tkE tkk tkd tkp tkr tkc), (a_rs, .inl (kA, 41, .inl rsF))]) (va_runS (As := [.int p1, .int (0 : Int32), .int (2 : Int32)]) (rest := []) ⟨hx, hb, hml, hown, hts⟩ (c_X6_isWithin l dC dI kA s.heap.size p1 (0 : Int32) (2 : Int32) _ h) (va_cwS 3 hts gX6_offer_X6_isWithin rfl rfl rfl (by decide +kernel) ⟨Nat.le_of_ble_eq_true rfl, Nat.le_of_ble_eq_true rfl⟩) (prW.preS hPc hDc hK hN) rfl rfl hl.1 rfl (lv_room (Nat.le_of_ble_eq_true rfl)) dX6_offer_3 ⟨Nat.le_of_ble_eq_true rfl, Nat.le_of_ble_eq_true rfl⟩) hP hD hS hA [] [0, 1, 2, 3] rfl rfl (by decide) (by decide) [0, 1, 2, 3] (by decide) (fun _ => rfl) (fun r3 u3 H locs h hP hD hS => ?_)
  have hP : va_P (dC, dI) vwCl [(a_x, .inr (6, [.ref a_pl, .ref a_lo, .ref a_sh, .long trc])), (a_pl, .inr (3, [.int days, .ref a_tk, .ref a_rs])), (a_tk, tkE tkk tkd tkp tkr tkc), (a_rs, .inl (kA, 41, .inl rsF))] H := hP
  have hD : va_D A [(a_x, .inr (6, [.ref a_pl, .ref a_lo, .ref a_sh, .long trc])), (a_pl, .inr (3, [.int days, .ref a_tk, .ref a_rs])), (a_tk, tkE tkk tkd tkp tkr tkc), (a_rs, .inl (kA, 41, .inl rsF))] := hD
  refine lv_if_eq (tgt := 31) hx hb dX6_offer_6 (by decide) (fun c6 => ?_) (fun c6 => ?_)
  · replace h := h.1 c6
    refine lv_iconst (v := (-1 : Int32)) hx hb dX6_offer_31 (by decide +kernel) ?_
    refine W.widen (k := 1) (n := 4) (Nat.le_of_ble_eq_true rfl) (Nat.le_of_ble_eq_true rfl) ?_
    rw [hQ]
    exact rt_i (tkk, tkd, tkp, tkr, tkc, rsF, a_tk) hx hb hr hlocks h hP hD hS dX6_offer_32
  · replace h := h.2 c6
    refine lv_iload_n hx hb dX6_offer_9 rfl (lv_at hl 2 rfl) ?_
    refine lv_iconst (v := (1 : Int32)) hx hb dX6_offer_10 (by decide +kernel) ?_
    refine lv_bipush (v := (50 : Int32)) hx hb dX6_offer_11 (by decide +kernel) ?_
    have hPc := hP.sub (ws' := []) [] rfl
    have hDc := hD.sub (ws' := []) [] (by decide) rfl
    refine fr_i (wr := [(a_x, .inr (6, [.ref a_pl, .ref a_lo, .ref a_sh, .long trc])), (a_pl, .inr (3, [.int days, .ref a_tk, .ref a_rs])), (a_tk, tkE tkk tkd tkp tkr tkc), (a_rs, .inl (kA, 41, .inl rsF))]) (WN := fun (u13 : Unit) => [(a_x, .inr (6, [.ref a_pl, .ref a_lo, .ref a_sh, .long trc])), (a_pl, .inr (3, [.int days, .ref a_tk, .ref a_rs])), (a_tk, tkE tkk tkd tkp tkr tkc), (a_rs, .inl (kA, 41, .inl rsF))]) (va_runS (As := [.int p2, .int (1 : Int32), .int (50 : Int32)]) (rest := []) ⟨hx, hb, hml, hown, hts⟩ (c_X6_isWithin l dC dI kA H.size p2 (1 : Int32) (50 : Int32) _ h) (va_cwS 3 hts gX6_offer_X6_isWithin rfl rfl rfl (by decide +kernel) ⟨Nat.le_of_ble_eq_true rfl, Nat.le_of_ble_eq_true rfl⟩) (prW.preS hPc hDc hK hN) rfl rfl hl.1 rfl (lv_room (Nat.le_of_ble_eq_true rfl)) dX6_offer_13 ⟨Nat.le_of_ble_eq_true rfl, Nat.le_of_ble_eq_true rfl⟩) hP hD hS hA [] [0, 1, 2, 3] rfl rfl (by decide) (by decide) [0, 1, 2, 3] (by decide) (fun _ => rfl) (fun r13 u13 H locs h hP hD hS => ?_)
    have hP : va_P (dC, dI) vwCl [(a_x, .inr (6, [.ref a_pl, .ref a_lo, .ref a_sh, .long trc])), (a_pl, .inr (3, [.int days, .ref a_tk, .ref a_rs])), (a_tk, tkE tkk tkd tkp tkr tkc), (a_rs, .inl (kA, 41, .inl rsF))] H := hP
    have hD : va_D A [(a_x, .inr (6, [.ref a_pl, .ref a_lo, .ref a_sh, .long trc])), (a_pl, .inr (3, [.int days, .ref a_tk, .ref a_rs])), (a_tk, tkE tkk tkd tkp tkr tkc), (a_rs, .inl (kA, 41, .inl rsF))] := hD
    refine lv_if_eq (tgt := 31) hx hb dX6_offer_16 (by decide) (fun c16 => ?_) (fun c16 => ?_)
    · replace h := h.1 c16
      refine lv_iconst (v := (-1 : Int32)) hx hb dX6_offer_31 (by decide +kernel) ?_
      refine W.widen (k := 1) (n := 4) (Nat.le_of_ble_eq_true rfl) (Nat.le_of_ble_eq_true rfl) ?_
      rw [hQ]
      exact rt_i (tkk, tkd, tkp, tkr, tkc, rsF, a_tk) hx hb hr hlocks h hP hD hS dX6_offer_32
    · replace h := h.2 c16
      refine lv_iload hx hb dX6_offer_19 (lv_at hl 5 rfl) ?_
      refine lv_iconst (v := (1 : Int32)) hx hb dX6_offer_21 (by decide +kernel) ?_
      refine lv_sipush (v := (500 : Int32)) hx hb dX6_offer_22 (by decide +kernel) ?_
      have hPc := hP.sub (ws' := []) [] rfl
      have hDc := hD.sub (ws' := []) [] (by decide) rfl
      refine fr_i (wr := [(a_x, .inr (6, [.ref a_pl, .ref a_lo, .ref a_sh, .long trc])), (a_pl, .inr (3, [.int days, .ref a_tk, .ref a_rs])), (a_tk, tkE tkk tkd tkp tkr tkc), (a_rs, .inl (kA, 41, .inl rsF))]) (WN := fun (u25 : Unit) => [(a_x, .inr (6, [.ref a_pl, .ref a_lo, .ref a_sh, .long trc])), (a_pl, .inr (3, [.int days, .ref a_tk, .ref a_rs])), (a_tk, tkE tkk tkd tkp tkr tkc), (a_rs, .inl (kA, 41, .inl rsF))]) (va_runS (As := [.int p5, .int (1 : Int32), .int (500 : Int32)]) (rest := []) ⟨hx, hb, hml, hown, hts⟩ (c_X6_isWithin l dC dI kA H.size p5 (1 : Int32) (500 : Int32) _ h) (va_cwS 3 hts gX6_offer_X6_isWithin rfl rfl rfl (by decide +kernel) ⟨Nat.le_of_ble_eq_true rfl, Nat.le_of_ble_eq_true rfl⟩) (prW.preS hPc hDc hK hN) rfl rfl hl.1 rfl (lv_room (Nat.le_of_ble_eq_true rfl)) dX6_offer_25 ⟨Nat.le_of_ble_eq_true rfl, Nat.le_of_ble_eq_true rfl⟩) hP hD hS hA [] [0, 1, 2, 3] rfl rfl (by decide) (by decide) [0, 1, 2, 3] (by decide) (fun _ => rfl) (fun r25 u25 H locs h hP hD hS => ?_)
      have hP : va_P (dC, dI) vwCl [(a_x, .inr (6, [.ref a_pl, .ref a_lo, .ref a_sh, .long trc])), (a_pl, .inr (3, [.int days, .ref a_tk, .ref a_rs])), (a_tk, tkE tkk tkd tkp tkr tkc), (a_rs, .inl (kA, 41, .inl rsF))] H := hP
      have hD : va_D A [(a_x, .inr (6, [.ref a_pl, .ref a_lo, .ref a_sh, .long trc])), (a_pl, .inr (3, [.int days, .ref a_tk, .ref a_rs])), (a_tk, tkE tkk tkd tkp tkr tkc), (a_rs, .inl (kA, 41, .inl rsF))] := hD
      refine lv_if_ne (tgt := 33) hx hb dX6_offer_28 (by decide) (fun c28 => ?_) (fun c28 => ?_)
      · replace h := h.1 c28
        refine lv_iload_n hx hb dX6_offer_33 rfl (lv_at hl 1 rfl) ?_
        obtain ⟨J49, hR49, h⟩ := h
        have hJ49 : J49 → ∀ (H : Heap) (locs : List Loc) (ls : Array Slot), va_P (dC, dI) vwCl [(a_x, .inr (6, [.ref a_pl, .ref a_lo, .ref a_sh, .long trc])), (a_pl, .inr (3, [.int days, .ref a_tk, .ref a_rs])), (a_tk, tkE tkk tkd tkp tkr tkc), (a_rs, .inl (kA, 41, .inl rsF))] H → va_D A [(a_x, .inr (6, [.ref a_pl, .ref a_lo, .ref a_sh, .long trc])), (a_pl, .inr (3, [.int days, .ref a_tk, .ref a_rs])), (a_tk, tkE tkk tkd tkp tkr tkc), (a_rs, .inl (kA, 41, .inl rsF))] → va_S A s.heap H locs → lv_has ls 6 [(0, .ref a_x), (1, .int p1), (2, .int p2), (3, .int p3), (4, .int p4), (5, .int p5)] → W p l e (headSpec wsX6_offer rmX6_offer).room s m args below meth c H locs 0 0 Q (F0 m 49 ls []) := by
          intro  h H locs ls hP hD hS hl
          replace h := hR49  h
          refine lv_iload_n hx hb dX6_offer_49 rfl (lv_at hl 1 rfl) ?_
          refine lv_iconst (v := (2 : Int32)) hx hb dX6_offer_50 (by decide +kernel) ?_
          obtain ⟨J68, hR68, h⟩ := h
          have hJ68 : J68 → ∀ (H : Heap) (locs : List Loc) (ls : Array Slot), va_P (dC, dI) vwCl [(a_x, .inr (6, [.ref a_pl, .ref a_lo, .ref a_sh, .long trc])), (a_pl, .inr (3, [.int days, .ref a_tk, .ref a_rs])), (a_tk, tkE tkk tkd tkp tkr tkc), (a_rs, .inl (kA, 41, .inl rsF))] H → va_D A [(a_x, .inr (6, [.ref a_pl, .ref a_lo, .ref a_sh, .long trc])), (a_pl, .inr (3, [.int days, .ref a_tk, .ref a_rs])), (a_tk, tkE tkk tkd tkp tkr tkc), (a_rs, .inl (kA, 41, .inl rsF))] → va_S A s.heap H locs → lv_has ls 6 [(0, .ref a_x), (1, .int p1), (2, .int p2), (3, .int p3), (4, .int p4), (5, .int p5)] → W p l e (headSpec wsX6_offer rmX6_offer).room s m args below meth c H locs 0 0 Q (F0 m 68 ls []) := by
            intro  h H locs ls hP hD hS hl
            replace h := hR68  h
            refine lv_aload_n hx hb dX6_offer_68 rfl (lv_at hl 0 rfl) ?_
            refine va_get (D := (dC, dI)) (ci := 6) (v := .ref a_pl) (C := RX6) (T := TX6) (N := 4) hx hb hts (fun _ h => List.mem_cons_of_mem _ (List.mem_append_left _ (List.mem_append_left _ (List.mem_append_left _ (List.mem_append_left _ (List.mem_append_right _ h)))))) hown hK hP 0 rfl rfl 0 (by decide) (hts (.fieldLink RX6 10 "RentOrBuy" "plans" "LRentOrBuy$Plans;") (List.mem_cons_of_mem _ (List.mem_append_left _ (List.mem_append_left _ (List.mem_append_left _ (List.mem_append_left _ (List.mem_append_left _ (List.mem_of_getElem? (i := 0) rfl)))))))) (fun _ h9 => h9) rfl dX6_offer_69 ?_
            refine lv_iload_n hx hb dX6_offer_72 rfl (lv_at hl 1 rfl) ?_
            refine lv_if_ne (tgt := 89) hx hb dX6_offer_73 (by decide) (fun c73 => ?_) (fun c73 => ?_)
            · replace h := h.1 c73
              refine lv_iload_n hx hb dX6_offer_89 rfl (lv_at hl 1 rfl) ?_
              refine lv_iconst (v := (1 : Int32)) hx hb dX6_offer_90 (by decide +kernel) ?_
              refine lv_icmp_ne (tgt := 108) hx hb dX6_offer_91 (by decide) (fun c91 => ?_) (fun c91 => ?_)
              · replace h := h.1 c91
                have hP := hP.sub (ws' := [(a_x, .inr (6, [.ref a_pl, .ref a_lo, .ref a_sh, .long trc])), (a_pl, .inr (3, [.int days, .ref a_tk, .ref a_rs])), (a_rs, .inl (kA, 41, .inl rsF))]) [0, 1, 3] rfl
                have hD := hD.sub (ws' := [(a_x, .inr (6, [.ref a_pl, .ref a_lo, .ref a_sh, .long trc])), (a_pl, .inr (3, [.int days, .ref a_tk, .ref a_rs])), (a_rs, .inl (kA, 41, .inl rsF))]) [0, 1, 3] (by decide) rfl
                refine va_new (ci := 0) (fs := [.int 0, .int 0, .int 0, .int 0]) (C := RX0) (T := TX0) (N := 4) hx hb hts (fun _ h => List.mem_cons_of_mem _ (List.mem_append_left _ (List.mem_append_right _ h))) tyX0 tyX0_ok hown (hts (.classLink RX6 48 RX0) (List.mem_cons_of_mem _ (List.mem_append_left _ (List.mem_append_left _ (List.mem_append_left _ (List.mem_append_left _ (List.mem_append_left _ (List.mem_of_getElem? (i := 7) rfl)))))))) (hts (.instantiable RX0 4) (List.mem_cons_of_mem _ (List.mem_append_left _ (List.mem_append_left _ (List.mem_append_left _ (List.mem_append_left _ (List.mem_append_left _ (List.mem_of_getElem? (i := 8) rfl)))))))) (hts (.initialized RX0) (List.mem_cons_of_mem _ (List.mem_append_left _ (List.mem_append_left _ (List.mem_append_left _ (List.mem_append_left _ (List.mem_append_left _ (List.mem_of_getElem? (i := 9) rfl)))))))) hK hP hD hS hA rfl (fun j hj => by rcases (show j = 0 ∨ j = 1 ∨ j = 2 ∨ j = 3 by omega) with rfl | rfl | rfl | rfl <;> rfl) (Nat.le_of_ble_eq_true rfl) (Nat.le_of_ble_eq_true rfl) dX6_offer_108 (fun q108 H hP hD hS => ?_)
                have hP : va_P (dC, dI) vwCl [(a_x, .inr (6, [.ref a_pl, .ref a_lo, .ref a_sh, .long trc])), (a_pl, .inr (3, [.int days, .ref a_tk, .ref a_rs])), (a_rs, .inl (kA, 41, .inl rsF)), (q108, .inr (0, [.int 0, .int 0, .int 0, .int 0]))] H := hP
                have hD : va_D A [(a_x, .inr (6, [.ref a_pl, .ref a_lo, .ref a_sh, .long trc])), (a_pl, .inr (3, [.int days, .ref a_tk, .ref a_rs])), (a_rs, .inl (kA, 41, .inl rsF)), (q108, .inr (0, [.int 0, .int 0, .int 0, .int 0]))] := hD
                refine lv_dup hx hb dX6_offer_111 rfl ?_
                refine lv_iload_n hx hb dX6_offer_112 rfl (lv_at hl 2 rfl) ?_
                refine lv_iload_n hx hb dX6_offer_113 rfl (lv_at hl 3 rfl) ?_
                refine lv_iload hx hb dX6_offer_114 (lv_at hl 4 rfl) ?_
                refine lv_iload hx hb dX6_offer_116 (lv_at hl 5 rfl) ?_
                have hPc := hP.sub (ws' := [(q108, .inr (0, [.int 0, .int 0, .int 0, .int 0]))]) [3] rfl
                have hDc := hD.sub (ws' := [(q108, .inr (0, [.int 0, .int 0, .int 0, .int 0]))]) [3] (by decide) rfl
                refine fr_v (wr := [(a_x, .inr (6, [.ref a_pl, .ref a_lo, .ref a_sh, .long trc])), (a_pl, .inr (3, [.int days, .ref a_tk, .ref a_rs])), (a_rs, .inl (kA, 41, .inl rsF))]) (WN := fun (u118 : Int32 × Int32 × Int32 × Int32) => [(a_x, .inr (6, [.ref a_pl, .ref a_lo, .ref a_sh, .long trc])), (a_pl, .inr (3, [.int days, .ref a_tk, .ref a_rs])), (a_rs, .inl (kA, 41, .inl rsF)), (q108, .inr (0, [.int u118.1, .int u118.2.1, .int u118.2.2.1, .int u118.2.2.2]))]) (va_runI (As := [.int p2, .int p3, .int p4, .int p5]) (rest := [.ref q108, .ref a_pl]) ⟨hx, hb, hml, hown, hts⟩ (c_X0_init_k2 l dC dI kA q108 H.size p2 p3 p4 p5 _ h) (cwI 4 hts gX6_offer_X0_init rfl rfl rfl (hts (.initialized RX0) (List.mem_cons_of_mem _ (List.mem_append_left _ (List.mem_append_left _ (List.mem_append_left _ (List.mem_append_left _ (List.mem_append_left _ (List.mem_of_getElem? (i := 9) rfl)))))))) (hts (.methodLink RX6 50 yX0_init) (List.mem_cons_of_mem _ (List.mem_append_left _ (List.mem_append_left _ (List.mem_append_left _ (List.mem_append_left _ (List.mem_append_left _ (List.mem_of_getElem? (i := 27) rfl)))))))) (hts (.instanceMethod yX0_init) (List.mem_cons_of_mem _ (List.mem_append_left _ (List.mem_append_left _ (List.mem_append_left _ (List.mem_append_left _ (List.mem_append_left _ (List.mem_of_getElem? (i := 28) rfl)))))))) rfl (by decide +kernel) ⟨Nat.le_of_ble_eq_true rfl, Nat.le_of_ble_eq_true rfl⟩) (prW.preS hPc hDc hK hN) rfl rfl hl.1 rfl (lv_room (Nat.le_of_ble_eq_true rfl)) dX6_offer_118 ⟨Nat.le_of_ble_eq_true rfl, Nat.le_of_ble_eq_true rfl⟩) hP hD hS hA [3] [0, 1, 2] rfl rfl (by decide) (by decide) [0, 1, 2, 3] (by decide) (fun _ => rfl) (fun u118 H locs h hP hD hS => ?_)
                obtain ⟨y118_tkr', y118_tkd', y118_tkp', y118_tkc'⟩ := u118
                have hP : va_P (dC, dI) vwCl [(a_x, .inr (6, [.ref a_pl, .ref a_lo, .ref a_sh, .long trc])), (a_pl, .inr (3, [.int days, .ref a_tk, .ref a_rs])), (a_rs, .inl (kA, 41, .inl rsF)), (q108, .inr (0, [.int y118_tkr', .int y118_tkd', .int y118_tkp', .int y118_tkc']))] H := hP
                have hD : va_D A [(a_x, .inr (6, [.ref a_pl, .ref a_lo, .ref a_sh, .long trc])), (a_pl, .inr (3, [.int days, .ref a_tk, .ref a_rs])), (a_rs, .inl (kA, 41, .inl rsF)), (q108, .inr (0, [.int y118_tkr', .int y118_tkd', .int y118_tkp', .int y118_tkc']))] := hD
                have hPc := hP.sub (ws' := [(a_pl, .inr (3, [.int days, .ref a_tk, .ref a_rs])), (q108, .inr (0, [.int y118_tkr', .int y118_tkd', .int y118_tkp', .int y118_tkc'])), (a_rs, .inl (kA, 41, .inl rsF))]) [1, 3, 2] rfl
                have hDc := hD.sub (ws' := [(a_pl, .inr (3, [.int days, .ref a_tk, .ref a_rs])), (q108, .inr (0, [.int y118_tkr', .int y118_tkd', .int y118_tkp', .int y118_tkc'])), (a_rs, .inl (kA, 41, .inl rsF))]) [1, 3, 2] (by decide) rfl
                refine fr_v (wr := [(a_x, .inr (6, [.ref a_pl, .ref a_lo, .ref a_sh, .long trc]))]) (WN := fun (u121 : (Nat → Int32)) => [(a_x, .inr (6, [.ref a_pl, .ref a_lo, .ref a_sh, .long trc])), (a_pl, .inr (3, [.int days, .ref q108, .ref a_rs])), (a_rs, .inl (kA, 41, .inl u121)), (q108, .inr (0, [.int y118_tkr', .int y118_tkd', .int y118_tkp', .int y118_tkc']))]) (va_runV (As := [.ref q108]) (rest := []) ⟨hx, hb, hml, hown, hts⟩ (c_X3_take_k2 l dC dI kA a_pl q108 a_rs a_tk H.size days y118_tkr' y118_tkd' y118_tkp' y118_tkc' rsF _ h) (cwV 1 hts gX6_offer_X3_take rfl rfl rfl (by decide +kernel) ⟨Nat.le_of_ble_eq_true rfl, Nat.le_of_ble_eq_true rfl⟩) (prW.preV (ci := 3) (q0 := 0) hPc hDc hK hN rfl rfl) rfl rfl hl.1 rfl (lv_room (Nat.le_of_ble_eq_true rfl)) dX6_offer_121 ⟨Nat.le_of_ble_eq_true rfl, Nat.le_of_ble_eq_true rfl⟩) hP hD hS hA [1, 3, 2] [0] rfl rfl (by decide) (by decide) [0, 1, 3, 2] (by decide) (fun _ => rfl) (fun u121 H locs h hP hD hS => ?_)
                obtain ⟨y121_rsF', rfl⟩ : ∃ z, z = u121 := ⟨_, rfl⟩
                have hP : va_P (dC, dI) vwCl [(a_x, .inr (6, [.ref a_pl, .ref a_lo, .ref a_sh, .long trc])), (a_pl, .inr (3, [.int days, .ref q108, .ref a_rs])), (a_rs, .inl (kA, 41, .inl y121_rsF')), (q108, .inr (0, [.int y118_tkr', .int y118_tkd', .int y118_tkp', .int y118_tkc']))] H := hP
                have hD : va_D A [(a_x, .inr (6, [.ref a_pl, .ref a_lo, .ref a_sh, .long trc])), (a_pl, .inr (3, [.int days, .ref q108, .ref a_rs])), (a_rs, .inl (kA, 41, .inl y121_rsF')), (q108, .inr (0, [.int y118_tkr', .int y118_tkd', .int y118_tkp', .int y118_tkc']))] := hD
                refine lv_aload_n hx hb dX6_offer_124 rfl (lv_at hl 0 rfl) ?_
                refine va_get (D := (dC, dI)) (ci := 6) (v := .ref a_pl) (C := RX6) (T := TX6) (N := 4) hx hb hts (fun _ h => List.mem_cons_of_mem _ (List.mem_append_left _ (List.mem_append_left _ (List.mem_append_left _ (List.mem_append_left _ (List.mem_append_right _ h)))))) hown hK hP 0 rfl rfl 0 (by decide) (hts (.fieldLink RX6 10 "RentOrBuy" "plans" "LRentOrBuy$Plans;") (List.mem_cons_of_mem _ (List.mem_append_left _ (List.mem_append_left _ (List.mem_append_left _ (List.mem_append_left _ (List.mem_append_left _ (List.mem_of_getElem? (i := 0) rfl)))))))) (fun _ h9 => h9) rfl dX6_offer_125 ?_
                refine lv_aload_n hx hb dX6_offer_128 rfl (lv_at hl 0 rfl) ?_
                refine va_get (D := (dC, dI)) (ci := 6) (v := .ref a_pl) (C := RX6) (T := TX6) (N := 4) hx hb hts (fun _ h => List.mem_cons_of_mem _ (List.mem_append_left _ (List.mem_append_left _ (List.mem_append_left _ (List.mem_append_left _ (List.mem_append_right _ h)))))) hown hK hP 0 rfl rfl 0 (by decide) (hts (.fieldLink RX6 10 "RentOrBuy" "plans" "LRentOrBuy$Plans;") (List.mem_cons_of_mem _ (List.mem_append_left _ (List.mem_append_left _ (List.mem_append_left _ (List.mem_append_left _ (List.mem_append_left _ (List.mem_of_getElem? (i := 0) rfl)))))))) (fun _ h9 => h9) rfl dX6_offer_129 ?_
                refine va_getN (D := (dC, dI)) (ci := 3) (v := .int days) (C := RX3) (T := TX3) (N := 3) hx hb hts (fun _ h => List.mem_cons_of_mem _ (List.mem_append_right _ h)) hown hK hP 1 rfl rfl 0 (by decide) (hN.f 1 rfl) (fun _ h9 => h9) rfl dX6_offer_132 ?_
                have hPc := hP.sub (ws' := [(a_pl, .inr (3, [.int days, .ref q108, .ref a_rs])), (q108, .inr (0, [.int y118_tkr', .int y118_tkd', .int y118_tkp', .int y118_tkc'])), (a_rs, .inl (kA, 41, .inl y121_rsF'))]) [1, 3, 2] rfl
                have hDc := hD.sub (ws' := [(a_pl, .inr (3, [.int days, .ref q108, .ref a_rs])), (q108, .inr (0, [.int y118_tkr', .int y118_tkd', .int y118_tkp', .int y118_tkc'])), (a_rs, .inl (kA, 41, .inl y121_rsF'))]) [1, 3, 2] (by decide) rfl
                refine fr_i (wr := [(a_x, .inr (6, [.ref a_pl, .ref a_lo, .ref a_sh, .long trc]))]) (WN := fun (u135 : Unit) => [(a_x, .inr (6, [.ref a_pl, .ref a_lo, .ref a_sh, .long trc])), (a_pl, .inr (3, [.int days, .ref q108, .ref a_rs])), (a_rs, .inl (kA, 41, .inl y121_rsF')), (q108, tkE 2 y118_tkd' y118_tkp' y118_tkr' y118_tkc')]) (va_runV (As := [.int days]) (rest := []) ⟨hx, hb, hml, hown, hts⟩ (c_X3_knownBy l dC dI kA a_pl q108 a_rs H.size days 2 y118_tkd' y118_tkp' y118_tkr' y118_tkc' y121_rsF' days _ h) (cwV 1 hts gX6_offer_X3_knownBy rfl rfl rfl (by decide +kernel) ⟨Nat.le_of_ble_eq_true rfl, Nat.le_of_ble_eq_true rfl⟩) (prW.preV (ci := 3) (q0 := 0) hPc hDc hK hN rfl rfl) rfl rfl hl.1 rfl (lv_room (Nat.le_of_ble_eq_true rfl)) dX6_offer_135 ⟨Nat.le_of_ble_eq_true rfl, Nat.le_of_ble_eq_true rfl⟩) hP hD hS hA [1, 3, 2] [0] rfl rfl (by decide) (by decide) [0, 1, 3, 2] (by decide) (fun _ => rfl) (fun r135 u135 H locs h hP hD hS => ?_)
                have hP : va_P (dC, dI) vwCl [(a_x, .inr (6, [.ref a_pl, .ref a_lo, .ref a_sh, .long trc])), (a_pl, .inr (3, [.int days, .ref q108, .ref a_rs])), (a_rs, .inl (kA, 41, .inl y121_rsF')), (q108, tkE 2 y118_tkd' y118_tkp' y118_tkr' y118_tkc')] H := hP
                have hD : va_D A [(a_x, .inr (6, [.ref a_pl, .ref a_lo, .ref a_sh, .long trc])), (a_pl, .inr (3, [.int days, .ref q108, .ref a_rs])), (a_rs, .inl (kA, 41, .inl y121_rsF')), (q108, tkE 2 y118_tkd' y118_tkp' y118_tkr' y118_tkc')] := hD
                have hP := hP.sub (ws' := [(a_x, .inr (6, [.ref a_pl, .ref a_lo, .ref a_sh, .long trc])), (a_pl, .inr (3, [.int days, .ref q108, .ref a_rs])), (q108, tkE 2 y118_tkd' y118_tkp' y118_tkr' y118_tkc'), (a_rs, .inl (kA, 41, .inl y121_rsF'))]) [0, 1, 3, 2] rfl
                have hD := hD.sub (ws' := [(a_x, .inr (6, [.ref a_pl, .ref a_lo, .ref a_sh, .long trc])), (a_pl, .inr (3, [.int days, .ref q108, .ref a_rs])), (q108, tkE 2 y118_tkd' y118_tkp' y118_tkr' y118_tkc'), (a_rs, .inl (kA, 41, .inl y121_rsF'))]) [0, 1, 3, 2] (by decide) rfl
                rw [hQ]
                exact rt_i (2, y118_tkd', y118_tkp', y118_tkr', y118_tkc', y121_rsF', q108) hx hb hr hlocks h hP hD hS dX6_offer_138
              · replace h := h.2 c91
                have hP := hP.sub (ws' := [(a_x, .inr (6, [.ref a_pl, .ref a_lo, .ref a_sh, .long trc])), (a_pl, .inr (3, [.int days, .ref a_tk, .ref a_rs])), (a_rs, .inl (kA, 41, .inl rsF))]) [0, 1, 3] rfl
                have hD := hD.sub (ws' := [(a_x, .inr (6, [.ref a_pl, .ref a_lo, .ref a_sh, .long trc])), (a_pl, .inr (3, [.int days, .ref a_tk, .ref a_rs])), (a_rs, .inl (kA, 41, .inl rsF))]) [0, 1, 3] (by decide) rfl
                refine va_new (ci := 4) (fs := [.int 0, .int 0, .int 0]) (C := RX4) (T := TX4) (N := 3) hx hb hts (fun _ h => List.mem_cons_of_mem _ (List.mem_append_left _ (List.mem_append_left _ (List.mem_append_right _ h)))) tyX4 tyX4_ok hown (hts (.classLink RX6 43 RX4) (List.mem_cons_of_mem _ (List.mem_append_left _ (List.mem_append_left _ (List.mem_append_left _ (List.mem_append_left _ (List.mem_append_left _ (List.mem_of_getElem? (i := 4) rfl)))))))) (hts (.instantiable RX4 3) (List.mem_cons_of_mem _ (List.mem_append_left _ (List.mem_append_left _ (List.mem_append_left _ (List.mem_append_left _ (List.mem_append_left _ (List.mem_of_getElem? (i := 5) rfl)))))))) (hts (.initialized RX4) (List.mem_cons_of_mem _ (List.mem_append_left _ (List.mem_append_left _ (List.mem_append_left _ (List.mem_append_left _ (List.mem_append_left _ (List.mem_of_getElem? (i := 6) rfl)))))))) hK hP hD hS hA rfl (fun j hj => by rcases (show j = 0 ∨ j = 1 ∨ j = 2 by omega) with rfl | rfl | rfl <;> rfl) (Nat.le_of_ble_eq_true rfl) (Nat.le_of_ble_eq_true rfl) dX6_offer_94 (fun q94 H hP hD hS => ?_)
                have hP : va_P (dC, dI) vwCl [(a_x, .inr (6, [.ref a_pl, .ref a_lo, .ref a_sh, .long trc])), (a_pl, .inr (3, [.int days, .ref a_tk, .ref a_rs])), (a_rs, .inl (kA, 41, .inl rsF)), (q94, .inr (4, [.int 0, .int 0, .int 0]))] H := hP
                have hD : va_D A [(a_x, .inr (6, [.ref a_pl, .ref a_lo, .ref a_sh, .long trc])), (a_pl, .inr (3, [.int days, .ref a_tk, .ref a_rs])), (a_rs, .inl (kA, 41, .inl rsF)), (q94, .inr (4, [.int 0, .int 0, .int 0]))] := hD
                refine lv_dup hx hb dX6_offer_97 rfl ?_
                refine lv_iload_n hx hb dX6_offer_98 rfl (lv_at hl 2 rfl) ?_
                refine lv_iload_n hx hb dX6_offer_99 rfl (lv_at hl 3 rfl) ?_
                refine lv_iload hx hb dX6_offer_100 (lv_at hl 5 rfl) ?_
                have hPc := hP.sub (ws' := [(q94, .inr (4, [.int 0, .int 0, .int 0]))]) [3] rfl
                have hDc := hD.sub (ws' := [(q94, .inr (4, [.int 0, .int 0, .int 0]))]) [3] (by decide) rfl
                refine fr_v (wr := [(a_x, .inr (6, [.ref a_pl, .ref a_lo, .ref a_sh, .long trc])), (a_pl, .inr (3, [.int days, .ref a_tk, .ref a_rs])), (a_rs, .inl (kA, 41, .inl rsF))]) (WN := fun (u102 : Int32 × Int32 × Int32) => [(a_x, .inr (6, [.ref a_pl, .ref a_lo, .ref a_sh, .long trc])), (a_pl, .inr (3, [.int days, .ref a_tk, .ref a_rs])), (a_rs, .inl (kA, 41, .inl rsF)), (q94, .inr (4, [.int u102.1, .int u102.2.1, .int u102.2.2]))]) (va_runI (As := [.int p2, .int p3, .int p5]) (rest := [.ref q94, .ref a_pl]) ⟨hx, hb, hml, hown, hts⟩ (c_X4_init_k1 l dC dI kA q94 H.size p2 p3 p5 _ h) (cwI 3 hts gX6_offer_X4_init rfl rfl rfl (hts (.initialized RX4) (List.mem_cons_of_mem _ (List.mem_append_left _ (List.mem_append_left _ (List.mem_append_left _ (List.mem_append_left _ (List.mem_append_left _ (List.mem_of_getElem? (i := 6) rfl)))))))) (hts (.methodLink RX6 45 yX4_init) (List.mem_cons_of_mem _ (List.mem_append_left _ (List.mem_append_left _ (List.mem_append_left _ (List.mem_append_left _ (List.mem_append_left _ (List.mem_of_getElem? (i := 22) rfl)))))))) (hts (.instanceMethod yX4_init) (List.mem_cons_of_mem _ (List.mem_append_left _ (List.mem_append_left _ (List.mem_append_left _ (List.mem_append_left _ (List.mem_append_left _ (List.mem_of_getElem? (i := 23) rfl)))))))) rfl (by decide +kernel) ⟨Nat.le_of_ble_eq_true rfl, Nat.le_of_ble_eq_true rfl⟩) (prW.preS hPc hDc hK hN) rfl rfl hl.1 rfl (lv_room (Nat.le_of_ble_eq_true rfl)) dX6_offer_102 ⟨Nat.le_of_ble_eq_true rfl, Nat.le_of_ble_eq_true rfl⟩) hP hD hS hA [3] [0, 1, 2] rfl rfl (by decide) (by decide) [0, 1, 2, 3] (by decide) (fun _ => rfl) (fun u102 H locs h hP hD hS => ?_)
                obtain ⟨y102_tkd', y102_tkp', y102_tkr'⟩ := u102
                have hP : va_P (dC, dI) vwCl [(a_x, .inr (6, [.ref a_pl, .ref a_lo, .ref a_sh, .long trc])), (a_pl, .inr (3, [.int days, .ref a_tk, .ref a_rs])), (a_rs, .inl (kA, 41, .inl rsF)), (q94, .inr (4, [.int y102_tkd', .int y102_tkp', .int y102_tkr']))] H := hP
                have hD : va_D A [(a_x, .inr (6, [.ref a_pl, .ref a_lo, .ref a_sh, .long trc])), (a_pl, .inr (3, [.int days, .ref a_tk, .ref a_rs])), (a_rs, .inl (kA, 41, .inl rsF)), (q94, .inr (4, [.int y102_tkd', .int y102_tkp', .int y102_tkr']))] := hD
                refine lv_goto (tgt := 121) hx hb dX6_offer_105 (by decide) ?_
                have hPc := hP.sub (ws' := [(a_pl, .inr (3, [.int days, .ref a_tk, .ref a_rs])), (q94, .inr (4, [.int y102_tkd', .int y102_tkp', .int y102_tkr'])), (a_rs, .inl (kA, 41, .inl rsF))]) [1, 3, 2] rfl
                have hDc := hD.sub (ws' := [(a_pl, .inr (3, [.int days, .ref a_tk, .ref a_rs])), (q94, .inr (4, [.int y102_tkd', .int y102_tkp', .int y102_tkr'])), (a_rs, .inl (kA, 41, .inl rsF))]) [1, 3, 2] (by decide) rfl
                refine fr_v (wr := [(a_x, .inr (6, [.ref a_pl, .ref a_lo, .ref a_sh, .long trc]))]) (WN := fun (u121 : (Nat → Int32)) => [(a_x, .inr (6, [.ref a_pl, .ref a_lo, .ref a_sh, .long trc])), (a_pl, .inr (3, [.int days, .ref q94, .ref a_rs])), (a_rs, .inl (kA, 41, .inl u121)), (q94, .inr (4, [.int y102_tkd', .int y102_tkp', .int y102_tkr']))]) (va_runV (As := [.ref q94]) (rest := []) ⟨hx, hb, hml, hown, hts⟩ (c_X3_take_k1 l dC dI kA a_pl q94 a_rs a_tk H.size days y102_tkd' y102_tkp' y102_tkr' rsF _ h) (cwV 1 hts gX6_offer_X3_take rfl rfl rfl (by decide +kernel) ⟨Nat.le_of_ble_eq_true rfl, Nat.le_of_ble_eq_true rfl⟩) (prW.preV (ci := 3) (q0 := 0) hPc hDc hK hN rfl rfl) rfl rfl hl.1 rfl (lv_room (Nat.le_of_ble_eq_true rfl)) dX6_offer_121 ⟨Nat.le_of_ble_eq_true rfl, Nat.le_of_ble_eq_true rfl⟩) hP hD hS hA [1, 3, 2] [0] rfl rfl (by decide) (by decide) [0, 1, 3, 2] (by decide) (fun _ => rfl) (fun u121 H locs h hP hD hS => ?_)
                obtain ⟨y121_rsF', rfl⟩ : ∃ z, z = u121 := ⟨_, rfl⟩
                have hP : va_P (dC, dI) vwCl [(a_x, .inr (6, [.ref a_pl, .ref a_lo, .ref a_sh, .long trc])), (a_pl, .inr (3, [.int days, .ref q94, .ref a_rs])), (a_rs, .inl (kA, 41, .inl y121_rsF')), (q94, .inr (4, [.int y102_tkd', .int y102_tkp', .int y102_tkr']))] H := hP
                have hD : va_D A [(a_x, .inr (6, [.ref a_pl, .ref a_lo, .ref a_sh, .long trc])), (a_pl, .inr (3, [.int days, .ref q94, .ref a_rs])), (a_rs, .inl (kA, 41, .inl y121_rsF')), (q94, .inr (4, [.int y102_tkd', .int y102_tkp', .int y102_tkr']))] := hD
                refine lv_aload_n hx hb dX6_offer_124 rfl (lv_at hl 0 rfl) ?_
                refine va_get (D := (dC, dI)) (ci := 6) (v := .ref a_pl) (C := RX6) (T := TX6) (N := 4) hx hb hts (fun _ h => List.mem_cons_of_mem _ (List.mem_append_left _ (List.mem_append_left _ (List.mem_append_left _ (List.mem_append_left _ (List.mem_append_right _ h)))))) hown hK hP 0 rfl rfl 0 (by decide) (hts (.fieldLink RX6 10 "RentOrBuy" "plans" "LRentOrBuy$Plans;") (List.mem_cons_of_mem _ (List.mem_append_left _ (List.mem_append_left _ (List.mem_append_left _ (List.mem_append_left _ (List.mem_append_left _ (List.mem_of_getElem? (i := 0) rfl)))))))) (fun _ h9 => h9) rfl dX6_offer_125 ?_
                refine lv_aload_n hx hb dX6_offer_128 rfl (lv_at hl 0 rfl) ?_
                refine va_get (D := (dC, dI)) (ci := 6) (v := .ref a_pl) (C := RX6) (T := TX6) (N := 4) hx hb hts (fun _ h => List.mem_cons_of_mem _ (List.mem_append_left _ (List.mem_append_left _ (List.mem_append_left _ (List.mem_append_left _ (List.mem_append_right _ h)))))) hown hK hP 0 rfl rfl 0 (by decide) (hts (.fieldLink RX6 10 "RentOrBuy" "plans" "LRentOrBuy$Plans;") (List.mem_cons_of_mem _ (List.mem_append_left _ (List.mem_append_left _ (List.mem_append_left _ (List.mem_append_left _ (List.mem_append_left _ (List.mem_of_getElem? (i := 0) rfl)))))))) (fun _ h9 => h9) rfl dX6_offer_129 ?_
                refine va_getN (D := (dC, dI)) (ci := 3) (v := .int days) (C := RX3) (T := TX3) (N := 3) hx hb hts (fun _ h => List.mem_cons_of_mem _ (List.mem_append_right _ h)) hown hK hP 1 rfl rfl 0 (by decide) (hN.f 1 rfl) (fun _ h9 => h9) rfl dX6_offer_132 ?_
                have hPc := hP.sub (ws' := [(a_pl, .inr (3, [.int days, .ref q94, .ref a_rs])), (q94, .inr (4, [.int y102_tkd', .int y102_tkp', .int y102_tkr'])), (a_rs, .inl (kA, 41, .inl y121_rsF'))]) [1, 3, 2] rfl
                have hDc := hD.sub (ws' := [(a_pl, .inr (3, [.int days, .ref q94, .ref a_rs])), (q94, .inr (4, [.int y102_tkd', .int y102_tkp', .int y102_tkr'])), (a_rs, .inl (kA, 41, .inl y121_rsF'))]) [1, 3, 2] (by decide) rfl
                refine fr_i (wr := [(a_x, .inr (6, [.ref a_pl, .ref a_lo, .ref a_sh, .long trc]))]) (WN := fun (u135 : Unit) => [(a_x, .inr (6, [.ref a_pl, .ref a_lo, .ref a_sh, .long trc])), (a_pl, .inr (3, [.int days, .ref q94, .ref a_rs])), (a_rs, .inl (kA, 41, .inl y121_rsF')), (q94, tkE 1 y102_tkd' y102_tkp' y102_tkr' (0 : Int32))]) (va_runV (As := [.int days]) (rest := []) ⟨hx, hb, hml, hown, hts⟩ (c_X3_knownBy l dC dI kA a_pl q94 a_rs H.size days 1 y102_tkd' y102_tkp' y102_tkr' (0 : Int32) y121_rsF' days _ h) (cwV 1 hts gX6_offer_X3_knownBy rfl rfl rfl (by decide +kernel) ⟨Nat.le_of_ble_eq_true rfl, Nat.le_of_ble_eq_true rfl⟩) (prW.preV (ci := 3) (q0 := 0) hPc hDc hK hN rfl rfl) rfl rfl hl.1 rfl (lv_room (Nat.le_of_ble_eq_true rfl)) dX6_offer_135 ⟨Nat.le_of_ble_eq_true rfl, Nat.le_of_ble_eq_true rfl⟩) hP hD hS hA [1, 3, 2] [0] rfl rfl (by decide) (by decide) [0, 1, 3, 2] (by decide) (fun _ => rfl) (fun r135 u135 H locs h hP hD hS => ?_)
                have hP : va_P (dC, dI) vwCl [(a_x, .inr (6, [.ref a_pl, .ref a_lo, .ref a_sh, .long trc])), (a_pl, .inr (3, [.int days, .ref q94, .ref a_rs])), (a_rs, .inl (kA, 41, .inl y121_rsF')), (q94, tkE 1 y102_tkd' y102_tkp' y102_tkr' (0 : Int32))] H := hP
                have hD : va_D A [(a_x, .inr (6, [.ref a_pl, .ref a_lo, .ref a_sh, .long trc])), (a_pl, .inr (3, [.int days, .ref q94, .ref a_rs])), (a_rs, .inl (kA, 41, .inl y121_rsF')), (q94, tkE 1 y102_tkd' y102_tkp' y102_tkr' (0 : Int32))] := hD
                refine W.widen (k := 1) (n := 4) (Nat.le_of_ble_eq_true rfl) (Nat.le_of_ble_eq_true rfl) ?_
                have hP := hP.sub (ws' := [(a_x, .inr (6, [.ref a_pl, .ref a_lo, .ref a_sh, .long trc])), (a_pl, .inr (3, [.int days, .ref q94, .ref a_rs])), (q94, tkE 1 y102_tkd' y102_tkp' y102_tkr' (0 : Int32)), (a_rs, .inl (kA, 41, .inl y121_rsF'))]) [0, 1, 3, 2] rfl
                have hD := hD.sub (ws' := [(a_x, .inr (6, [.ref a_pl, .ref a_lo, .ref a_sh, .long trc])), (a_pl, .inr (3, [.int days, .ref q94, .ref a_rs])), (q94, tkE 1 y102_tkd' y102_tkp' y102_tkr' (0 : Int32)), (a_rs, .inl (kA, 41, .inl y121_rsF'))]) [0, 1, 3, 2] (by decide) rfl
                rw [hQ]
                exact rt_i (1, y102_tkd', y102_tkp', y102_tkr', (0 : Int32), y121_rsF', q94) hx hb hr hlocks h hP hD hS dX6_offer_138
            · replace h := h.2 c73
              have hP := hP.sub (ws' := [(a_x, .inr (6, [.ref a_pl, .ref a_lo, .ref a_sh, .long trc])), (a_pl, .inr (3, [.int days, .ref a_tk, .ref a_rs])), (a_rs, .inl (kA, 41, .inl rsF))]) [0, 1, 3] rfl
              have hD := hD.sub (ws' := [(a_x, .inr (6, [.ref a_pl, .ref a_lo, .ref a_sh, .long trc])), (a_pl, .inr (3, [.int days, .ref a_tk, .ref a_rs])), (a_rs, .inl (kA, 41, .inl rsF))]) [0, 1, 3] (by decide) rfl
              refine va_new (ci := 1) (fs := [.int 0, .int 0]) (C := RX1) (T := TX1) (N := 2) hx hb hts (fun _ h => List.mem_cons_of_mem _ (List.mem_append_left _ (List.mem_append_left _ (List.mem_append_left _ (List.mem_append_right _ h))))) tyX1 tyX1_ok hown (hts (.classLink RX6 38 RX1) (List.mem_cons_of_mem _ (List.mem_append_left _ (List.mem_append_left _ (List.mem_append_left _ (List.mem_append_left _ (List.mem_append_left _ (List.mem_of_getElem? (i := 1) rfl)))))))) (hts (.instantiable RX1 2) (List.mem_cons_of_mem _ (List.mem_append_left _ (List.mem_append_left _ (List.mem_append_left _ (List.mem_append_left _ (List.mem_append_left _ (List.mem_of_getElem? (i := 2) rfl)))))))) (hts (.initialized RX1) (List.mem_cons_of_mem _ (List.mem_append_left _ (List.mem_append_left _ (List.mem_append_left _ (List.mem_append_left _ (List.mem_append_left _ (List.mem_of_getElem? (i := 3) rfl)))))))) hK hP hD hS hA rfl (fun j hj => by rcases (show j = 0 ∨ j = 1 by omega) with rfl | rfl <;> rfl) (Nat.le_of_ble_eq_true rfl) (Nat.le_of_ble_eq_true rfl) dX6_offer_76 (fun q76 H hP hD hS => ?_)
              have hP : va_P (dC, dI) vwCl [(a_x, .inr (6, [.ref a_pl, .ref a_lo, .ref a_sh, .long trc])), (a_pl, .inr (3, [.int days, .ref a_tk, .ref a_rs])), (a_rs, .inl (kA, 41, .inl rsF)), (q76, .inr (1, [.int 0, .int 0]))] H := hP
              have hD : va_D A [(a_x, .inr (6, [.ref a_pl, .ref a_lo, .ref a_sh, .long trc])), (a_pl, .inr (3, [.int days, .ref a_tk, .ref a_rs])), (a_rs, .inl (kA, 41, .inl rsF)), (q76, .inr (1, [.int 0, .int 0]))] := hD
              refine lv_dup hx hb dX6_offer_79 rfl ?_
              refine lv_iload_n hx hb dX6_offer_80 rfl (lv_at hl 2 rfl) ?_
              refine lv_iload hx hb dX6_offer_81 (lv_at hl 5 rfl) ?_
              have hPc := hP.sub (ws' := [(q76, .inr (1, [.int 0, .int 0]))]) [3] rfl
              have hDc := hD.sub (ws' := [(q76, .inr (1, [.int 0, .int 0]))]) [3] (by decide) rfl
              refine fr_v (wr := [(a_x, .inr (6, [.ref a_pl, .ref a_lo, .ref a_sh, .long trc])), (a_pl, .inr (3, [.int days, .ref a_tk, .ref a_rs])), (a_rs, .inl (kA, 41, .inl rsF))]) (WN := fun (u83 : Int32 × Int32) => [(a_x, .inr (6, [.ref a_pl, .ref a_lo, .ref a_sh, .long trc])), (a_pl, .inr (3, [.int days, .ref a_tk, .ref a_rs])), (a_rs, .inl (kA, 41, .inl rsF)), (q76, .inr (1, [.int u83.1, .int u83.2]))]) (va_runI (As := [.int p2, .int p5]) (rest := [.ref q76, .ref a_pl]) ⟨hx, hb, hml, hown, hts⟩ (c_X1_init_k0 l dC dI kA q76 H.size p2 p5 _ h) (cwI 2 hts gX6_offer_X1_init rfl rfl rfl (hts (.initialized RX1) (List.mem_cons_of_mem _ (List.mem_append_left _ (List.mem_append_left _ (List.mem_append_left _ (List.mem_append_left _ (List.mem_append_left _ (List.mem_of_getElem? (i := 3) rfl)))))))) (hts (.methodLink RX6 40 yX1_init) (List.mem_cons_of_mem _ (List.mem_append_left _ (List.mem_append_left _ (List.mem_append_left _ (List.mem_append_left _ (List.mem_append_left _ (List.mem_of_getElem? (i := 14) rfl)))))))) (hts (.instanceMethod yX1_init) (List.mem_cons_of_mem _ (List.mem_append_left _ (List.mem_append_left _ (List.mem_append_left _ (List.mem_append_left _ (List.mem_append_left _ (List.mem_of_getElem? (i := 15) rfl)))))))) rfl (by decide +kernel) ⟨Nat.le_of_ble_eq_true rfl, Nat.le_of_ble_eq_true rfl⟩) (prW.preS hPc hDc hK hN) rfl rfl hl.1 rfl (lv_room (Nat.le_of_ble_eq_true rfl)) dX6_offer_83 ⟨Nat.le_of_ble_eq_true rfl, Nat.le_of_ble_eq_true rfl⟩) hP hD hS hA [3] [0, 1, 2] rfl rfl (by decide) (by decide) [0, 1, 2, 3] (by decide) (fun _ => rfl) (fun u83 H locs h hP hD hS => ?_)
              obtain ⟨y83_tkd', y83_tkp'⟩ := u83
              have hP : va_P (dC, dI) vwCl [(a_x, .inr (6, [.ref a_pl, .ref a_lo, .ref a_sh, .long trc])), (a_pl, .inr (3, [.int days, .ref a_tk, .ref a_rs])), (a_rs, .inl (kA, 41, .inl rsF)), (q76, .inr (1, [.int y83_tkd', .int y83_tkp']))] H := hP
              have hD : va_D A [(a_x, .inr (6, [.ref a_pl, .ref a_lo, .ref a_sh, .long trc])), (a_pl, .inr (3, [.int days, .ref a_tk, .ref a_rs])), (a_rs, .inl (kA, 41, .inl rsF)), (q76, .inr (1, [.int y83_tkd', .int y83_tkp']))] := hD
              refine lv_goto (tgt := 121) hx hb dX6_offer_86 (by decide) ?_
              have hPc := hP.sub (ws' := [(a_pl, .inr (3, [.int days, .ref a_tk, .ref a_rs])), (q76, .inr (1, [.int y83_tkd', .int y83_tkp'])), (a_rs, .inl (kA, 41, .inl rsF))]) [1, 3, 2] rfl
              have hDc := hD.sub (ws' := [(a_pl, .inr (3, [.int days, .ref a_tk, .ref a_rs])), (q76, .inr (1, [.int y83_tkd', .int y83_tkp'])), (a_rs, .inl (kA, 41, .inl rsF))]) [1, 3, 2] (by decide) rfl
              refine fr_v (wr := [(a_x, .inr (6, [.ref a_pl, .ref a_lo, .ref a_sh, .long trc]))]) (WN := fun (u121 : (Nat → Int32)) => [(a_x, .inr (6, [.ref a_pl, .ref a_lo, .ref a_sh, .long trc])), (a_pl, .inr (3, [.int days, .ref q76, .ref a_rs])), (a_rs, .inl (kA, 41, .inl u121)), (q76, .inr (1, [.int y83_tkd', .int y83_tkp']))]) (va_runV (As := [.ref q76]) (rest := []) ⟨hx, hb, hml, hown, hts⟩ (c_X3_take_k0 l dC dI kA a_pl q76 a_rs a_tk H.size days y83_tkd' y83_tkp' rsF _ h) (cwV 1 hts gX6_offer_X3_take rfl rfl rfl (by decide +kernel) ⟨Nat.le_of_ble_eq_true rfl, Nat.le_of_ble_eq_true rfl⟩) (prW.preV (ci := 3) (q0 := 0) hPc hDc hK hN rfl rfl) rfl rfl hl.1 rfl (lv_room (Nat.le_of_ble_eq_true rfl)) dX6_offer_121 ⟨Nat.le_of_ble_eq_true rfl, Nat.le_of_ble_eq_true rfl⟩) hP hD hS hA [1, 3, 2] [0] rfl rfl (by decide) (by decide) [0, 1, 3, 2] (by decide) (fun _ => rfl) (fun u121 H locs h hP hD hS => ?_)
              obtain ⟨y121_rsF', rfl⟩ : ∃ z, z = u121 := ⟨_, rfl⟩
              have hP : va_P (dC, dI) vwCl [(a_x, .inr (6, [.ref a_pl, .ref a_lo, .ref a_sh, .long trc])), (a_pl, .inr (3, [.int days, .ref q76, .ref a_rs])), (a_rs, .inl (kA, 41, .inl y121_rsF')), (q76, .inr (1, [.int y83_tkd', .int y83_tkp']))] H := hP
              have hD : va_D A [(a_x, .inr (6, [.ref a_pl, .ref a_lo, .ref a_sh, .long trc])), (a_pl, .inr (3, [.int days, .ref q76, .ref a_rs])), (a_rs, .inl (kA, 41, .inl y121_rsF')), (q76, .inr (1, [.int y83_tkd', .int y83_tkp']))] := hD
              refine lv_aload_n hx hb dX6_offer_124 rfl (lv_at hl 0 rfl) ?_
              refine va_get (D := (dC, dI)) (ci := 6) (v := .ref a_pl) (C := RX6) (T := TX6) (N := 4) hx hb hts (fun _ h => List.mem_cons_of_mem _ (List.mem_append_left _ (List.mem_append_left _ (List.mem_append_left _ (List.mem_append_left _ (List.mem_append_right _ h)))))) hown hK hP 0 rfl rfl 0 (by decide) (hts (.fieldLink RX6 10 "RentOrBuy" "plans" "LRentOrBuy$Plans;") (List.mem_cons_of_mem _ (List.mem_append_left _ (List.mem_append_left _ (List.mem_append_left _ (List.mem_append_left _ (List.mem_append_left _ (List.mem_of_getElem? (i := 0) rfl)))))))) (fun _ h9 => h9) rfl dX6_offer_125 ?_
              refine lv_aload_n hx hb dX6_offer_128 rfl (lv_at hl 0 rfl) ?_
              refine va_get (D := (dC, dI)) (ci := 6) (v := .ref a_pl) (C := RX6) (T := TX6) (N := 4) hx hb hts (fun _ h => List.mem_cons_of_mem _ (List.mem_append_left _ (List.mem_append_left _ (List.mem_append_left _ (List.mem_append_left _ (List.mem_append_right _ h)))))) hown hK hP 0 rfl rfl 0 (by decide) (hts (.fieldLink RX6 10 "RentOrBuy" "plans" "LRentOrBuy$Plans;") (List.mem_cons_of_mem _ (List.mem_append_left _ (List.mem_append_left _ (List.mem_append_left _ (List.mem_append_left _ (List.mem_append_left _ (List.mem_of_getElem? (i := 0) rfl)))))))) (fun _ h9 => h9) rfl dX6_offer_129 ?_
              refine va_getN (D := (dC, dI)) (ci := 3) (v := .int days) (C := RX3) (T := TX3) (N := 3) hx hb hts (fun _ h => List.mem_cons_of_mem _ (List.mem_append_right _ h)) hown hK hP 1 rfl rfl 0 (by decide) (hN.f 1 rfl) (fun _ h9 => h9) rfl dX6_offer_132 ?_
              have hPc := hP.sub (ws' := [(a_pl, .inr (3, [.int days, .ref q76, .ref a_rs])), (q76, .inr (1, [.int y83_tkd', .int y83_tkp'])), (a_rs, .inl (kA, 41, .inl y121_rsF'))]) [1, 3, 2] rfl
              have hDc := hD.sub (ws' := [(a_pl, .inr (3, [.int days, .ref q76, .ref a_rs])), (q76, .inr (1, [.int y83_tkd', .int y83_tkp'])), (a_rs, .inl (kA, 41, .inl y121_rsF'))]) [1, 3, 2] (by decide) rfl
              refine fr_i (wr := [(a_x, .inr (6, [.ref a_pl, .ref a_lo, .ref a_sh, .long trc]))]) (WN := fun (u135 : Unit) => [(a_x, .inr (6, [.ref a_pl, .ref a_lo, .ref a_sh, .long trc])), (a_pl, .inr (3, [.int days, .ref q76, .ref a_rs])), (a_rs, .inl (kA, 41, .inl y121_rsF')), (q76, tkE 0 y83_tkd' y83_tkp' (0 : Int32) (0 : Int32))]) (va_runV (As := [.int days]) (rest := []) ⟨hx, hb, hml, hown, hts⟩ (c_X3_knownBy l dC dI kA a_pl q76 a_rs H.size days 0 y83_tkd' y83_tkp' (0 : Int32) (0 : Int32) y121_rsF' days _ h) (cwV 1 hts gX6_offer_X3_knownBy rfl rfl rfl (by decide +kernel) ⟨Nat.le_of_ble_eq_true rfl, Nat.le_of_ble_eq_true rfl⟩) (prW.preV (ci := 3) (q0 := 0) hPc hDc hK hN rfl rfl) rfl rfl hl.1 rfl (lv_room (Nat.le_of_ble_eq_true rfl)) dX6_offer_135 ⟨Nat.le_of_ble_eq_true rfl, Nat.le_of_ble_eq_true rfl⟩) hP hD hS hA [1, 3, 2] [0] rfl rfl (by decide) (by decide) [0, 1, 3, 2] (by decide) (fun _ => rfl) (fun r135 u135 H locs h hP hD hS => ?_)
              have hP : va_P (dC, dI) vwCl [(a_x, .inr (6, [.ref a_pl, .ref a_lo, .ref a_sh, .long trc])), (a_pl, .inr (3, [.int days, .ref q76, .ref a_rs])), (a_rs, .inl (kA, 41, .inl y121_rsF')), (q76, tkE 0 y83_tkd' y83_tkp' (0 : Int32) (0 : Int32))] H := hP
              have hD : va_D A [(a_x, .inr (6, [.ref a_pl, .ref a_lo, .ref a_sh, .long trc])), (a_pl, .inr (3, [.int days, .ref q76, .ref a_rs])), (a_rs, .inl (kA, 41, .inl y121_rsF')), (q76, tkE 0 y83_tkd' y83_tkp' (0 : Int32) (0 : Int32))] := hD
              refine W.widen (k := 1) (n := 4) (Nat.le_of_ble_eq_true rfl) (Nat.le_of_ble_eq_true rfl) ?_
              have hP := hP.sub (ws' := [(a_x, .inr (6, [.ref a_pl, .ref a_lo, .ref a_sh, .long trc])), (a_pl, .inr (3, [.int days, .ref q76, .ref a_rs])), (q76, tkE 0 y83_tkd' y83_tkp' (0 : Int32) (0 : Int32)), (a_rs, .inl (kA, 41, .inl y121_rsF'))]) [0, 1, 3, 2] rfl
              have hD := hD.sub (ws' := [(a_x, .inr (6, [.ref a_pl, .ref a_lo, .ref a_sh, .long trc])), (a_pl, .inr (3, [.int days, .ref q76, .ref a_rs])), (q76, tkE 0 y83_tkd' y83_tkp' (0 : Int32) (0 : Int32)), (a_rs, .inl (kA, 41, .inl y121_rsF'))]) [0, 1, 3, 2] (by decide) rfl
              rw [hQ]
              exact rt_i (0, y83_tkd', y83_tkp', (0 : Int32), (0 : Int32), y121_rsF', q76) hx hb hr hlocks h hP hD hS dX6_offer_138
          refine lv_icmp_ne (tgt := 68) hx hb dX6_offer_51 (by decide) (fun c51 => ?_) (fun c51 => ?_)
          · replace h := h.1 c51
            exact hJ68 h _ _ _ hP hD hS (lv_sub hl [0, 1, 2, 3, 4, 5] rfl)
          · replace h := h.2 c51
            refine lv_iload hx hb dX6_offer_54 (lv_at hl 4 rfl) ?_
            refine lv_iconst (v := (1 : Int32)) hx hb dX6_offer_56 (by decide +kernel) ?_
            refine lv_sipush (v := (200 : Int32)) hx hb dX6_offer_57 (by decide +kernel) ?_
            have hPc := hP.sub (ws' := []) [] rfl
            have hDc := hD.sub (ws' := []) [] (by decide) rfl
            refine fr_i (wr := [(a_x, .inr (6, [.ref a_pl, .ref a_lo, .ref a_sh, .long trc])), (a_pl, .inr (3, [.int days, .ref a_tk, .ref a_rs])), (a_tk, tkE tkk tkd tkp tkr tkc), (a_rs, .inl (kA, 41, .inl rsF))]) (WN := fun (u60 : Unit) => [(a_x, .inr (6, [.ref a_pl, .ref a_lo, .ref a_sh, .long trc])), (a_pl, .inr (3, [.int days, .ref a_tk, .ref a_rs])), (a_tk, tkE tkk tkd tkp tkr tkc), (a_rs, .inl (kA, 41, .inl rsF))]) (va_runS (As := [.int p4, .int (1 : Int32), .int (200 : Int32)]) (rest := []) ⟨hx, hb, hml, hown, hts⟩ (c_X6_isWithin l dC dI kA H.size p4 (1 : Int32) (200 : Int32) _ h) (va_cwS 3 hts gX6_offer_X6_isWithin rfl rfl rfl (by decide +kernel) ⟨Nat.le_of_ble_eq_true rfl, Nat.le_of_ble_eq_true rfl⟩) (prW.preS hPc hDc hK hN) rfl rfl hl.1 rfl (lv_room (Nat.le_of_ble_eq_true rfl)) dX6_offer_60 ⟨Nat.le_of_ble_eq_true rfl, Nat.le_of_ble_eq_true rfl⟩) hP hD hS hA [] [0, 1, 2, 3] rfl rfl (by decide) (by decide) [0, 1, 2, 3] (by decide) (fun _ => rfl) (fun r60 u60 H locs h hP hD hS => ?_)
            have hP : va_P (dC, dI) vwCl [(a_x, .inr (6, [.ref a_pl, .ref a_lo, .ref a_sh, .long trc])), (a_pl, .inr (3, [.int days, .ref a_tk, .ref a_rs])), (a_tk, tkE tkk tkd tkp tkr tkc), (a_rs, .inl (kA, 41, .inl rsF))] H := hP
            have hD : va_D A [(a_x, .inr (6, [.ref a_pl, .ref a_lo, .ref a_sh, .long trc])), (a_pl, .inr (3, [.int days, .ref a_tk, .ref a_rs])), (a_tk, tkE tkk tkd tkp tkr tkc), (a_rs, .inl (kA, 41, .inl rsF))] := hD
            refine lv_if_ne (tgt := 68) hx hb dX6_offer_63 (by decide) (fun c63 => ?_) (fun c63 => ?_)
            · replace h := h.1 c63
              exact hJ68 h _ _ _ hP hD hS (lv_sub hl [0, 1, 2, 3, 4, 5] rfl)
            · replace h := h.2 c63
              refine lv_iconst (v := (-1 : Int32)) hx hb dX6_offer_66 (by decide +kernel) ?_
              refine W.widen (k := 1) (n := 4) (Nat.le_of_ble_eq_true rfl) (Nat.le_of_ble_eq_true rfl) ?_
              rw [hQ]
              exact rt_i (tkk, tkd, tkp, tkr, tkc, rsF, a_tk) hx hb hr hlocks h hP hD hS dX6_offer_67
        refine lv_if_eq (tgt := 49) hx hb dX6_offer_34 (by decide) (fun c34 => ?_) (fun c34 => ?_)
        · replace h := h.1 c34
          exact hJ49 h _ _ _ hP hD hS (lv_sub hl [0, 1, 2, 3, 4, 5] rfl)
        · replace h := h.2 c34
          refine lv_iload_n hx hb dX6_offer_37 rfl (lv_at hl 3 rfl) ?_
          refine lv_iconst (v := (0 : Int32)) hx hb dX6_offer_38 (by decide +kernel) ?_
          refine lv_bipush (v := (20 : Int32)) hx hb dX6_offer_39 (by decide +kernel) ?_
          have hPc := hP.sub (ws' := []) [] rfl
          have hDc := hD.sub (ws' := []) [] (by decide) rfl
          refine fr_i (wr := [(a_x, .inr (6, [.ref a_pl, .ref a_lo, .ref a_sh, .long trc])), (a_pl, .inr (3, [.int days, .ref a_tk, .ref a_rs])), (a_tk, tkE tkk tkd tkp tkr tkc), (a_rs, .inl (kA, 41, .inl rsF))]) (WN := fun (u41 : Unit) => [(a_x, .inr (6, [.ref a_pl, .ref a_lo, .ref a_sh, .long trc])), (a_pl, .inr (3, [.int days, .ref a_tk, .ref a_rs])), (a_tk, tkE tkk tkd tkp tkr tkc), (a_rs, .inl (kA, 41, .inl rsF))]) (va_runS (As := [.int p3, .int (0 : Int32), .int (20 : Int32)]) (rest := []) ⟨hx, hb, hml, hown, hts⟩ (c_X6_isWithin l dC dI kA H.size p3 (0 : Int32) (20 : Int32) _ h) (va_cwS 3 hts gX6_offer_X6_isWithin rfl rfl rfl (by decide +kernel) ⟨Nat.le_of_ble_eq_true rfl, Nat.le_of_ble_eq_true rfl⟩) (prW.preS hPc hDc hK hN) rfl rfl hl.1 rfl (lv_room (Nat.le_of_ble_eq_true rfl)) dX6_offer_41 ⟨Nat.le_of_ble_eq_true rfl, Nat.le_of_ble_eq_true rfl⟩) hP hD hS hA [] [0, 1, 2, 3] rfl rfl (by decide) (by decide) [0, 1, 2, 3] (by decide) (fun _ => rfl) (fun r41 u41 H locs h hP hD hS => ?_)
          have hP : va_P (dC, dI) vwCl [(a_x, .inr (6, [.ref a_pl, .ref a_lo, .ref a_sh, .long trc])), (a_pl, .inr (3, [.int days, .ref a_tk, .ref a_rs])), (a_tk, tkE tkk tkd tkp tkr tkc), (a_rs, .inl (kA, 41, .inl rsF))] H := hP
          have hD : va_D A [(a_x, .inr (6, [.ref a_pl, .ref a_lo, .ref a_sh, .long trc])), (a_pl, .inr (3, [.int days, .ref a_tk, .ref a_rs])), (a_tk, tkE tkk tkd tkp tkr tkc), (a_rs, .inl (kA, 41, .inl rsF))] := hD
          refine lv_if_ne (tgt := 49) hx hb dX6_offer_44 (by decide) (fun c44 => ?_) (fun c44 => ?_)
          · replace h := h.1 c44
            exact hJ49 h _ _ _ hP hD hS (lv_sub hl [0, 1, 2, 3, 4, 5] rfl)
          · replace h := h.2 c44
            refine lv_iconst (v := (-1 : Int32)) hx hb dX6_offer_47 (by decide +kernel) ?_
            refine W.widen (k := 1) (n := 4) (Nat.le_of_ble_eq_true rfl) (Nat.le_of_ble_eq_true rfl) ?_
            rw [hQ]
            exact rt_i (tkk, tkd, tkp, tkr, tkc, rsF, a_tk) hx hb hr hlocks h hP hD hS dX6_offer_48
      · replace h := h.2 c28
        refine lv_iconst (v := (-1 : Int32)) hx hb dX6_offer_31 (by decide +kernel) ?_
        refine W.widen (k := 1) (n := 4) (Nat.le_of_ble_eq_true rfl) (Nat.le_of_ble_eq_true rfl) ?_
        rw [hQ]
        exact rt_i (tkk, tkd, tkp, tkr, tkc, rsF, a_tk) hx hb hr hlocks h hP hD hS dX6_offer_32

/-- RentOrBuy.ratio -/
def rmX6_ratio : Room := { frames := 4, cells := 0, slots := 0, locals := 81 }
set_option maxHeartbeats 4000000 in
set_option maxRecDepth 100000 in
theorem c_X6_ratio (l : Launch) (dC : Nat → ClassId) (dI : Nat → Nat → Nat) (kA : ClassId) (a_x a_pl a_tk a_rs a_lo a_sh : Nat) (sz : Nat) (trc : Int64) (days : Int32) (tkk : Nat) (tkd : Int32) (tkp : Int32) (tkr : Int32) (tkc : Int32) (rsF : Nat → Int32) (p1 : Int32) (p2 : Int32) (p3 : Int32) (K : Int32 → Prop) (hg : g_X6_ratio trc days tkk tkd tkp tkr tkc rsF p1 p2 p3 K) : Met l yX6_ratio wsX6_ratio rmX6_ratio (va_Pc [.ref a_x, .int p1, .int p2, .int p3] (prW (dC, dI) kA sz [(a_x, .inr (6, [.ref a_pl, .ref a_lo, .ref a_sh, .long trc])), (a_pl, .inr (3, [.int days, .ref a_tk, .ref a_rs])), (a_tk, tkE tkk tkd tkp tkr tkc), (a_rs, .inl (kA, 41, .inl rsF))])) (va_Qi (fun (r : Int32) (u : Unit) => K r) (poW (dC, dI) (va_A [(a_x, .inr (6, [.ref a_pl, .ref a_lo, .ref a_sh, .long trc])), (a_pl, .inr (3, [.int days, .ref a_tk, .ref a_rs])), (a_tk, tkE tkk tkd tkp tkr tkc), (a_rs, .inl (kA, 41, .inl rsF))] sz) (fun (u : Unit) => [(a_x, .inr (6, [.ref a_pl, .ref a_lo, .ref a_sh, .long trc])), (a_pl, .inr (3, [.int days, .ref a_tk, .ref a_rs])), (a_tk, tkE tkk tkd tkp tkr tkc), (a_rs, .inl (kA, 41, .inl rsF))])) (va_A [(a_x, .inr (6, [.ref a_pl, .ref a_lo, .ref a_sh, .long trc])), (a_pl, .inr (3, [.int days, .ref a_tk, .ref a_rs])), (a_tk, tkE tkk tkd tkp tkr tkc), (a_rs, .inl (kA, 41, .inl rsF))] sz)) 0 0 (va_A [(a_x, .inr (6, [.ref a_pl, .ref a_lo, .ref a_sh, .long trc])), (a_pl, .inr (3, [.int days, .ref a_tk, .ref a_rs])), (a_tk, tkE tkk tkd tkp tkr tkc), (a_rs, .inl (kA, 41, .inl rsF))] sz) := by
  refine Met.ofW (cc := cX6_ratio) (maxL := 4) (ret := (some .int)) (by decide) rfl ?_
  intro p e s m args below meth c s₁ B hml hv
  obtain ⟨hargs, hsz, hP, hK, hD0, hN⟩ := hv
  have hx := B.exec
  have hb := B.bytes
  have hr := B.returns
  have hts := atoms_spec (ws := wsX6_ratio) B.pre
  have hown : s.vm.findClass RX6 = some m.cls := findClass_of_methodNamed B.named
  have hlocks := B.notSynchronized
  subst hsz
  have hD := hD0.self (sz := s.heap.size)
  generalize hAe : va_A [(a_x, .inr (6, [.ref a_pl, .ref a_lo, .ref a_sh, .long trc])), (a_pl, .inr (3, [.int days, .ref a_tk, .ref a_rs])), (a_tk, tkE tkk tkd tkp tkr tkc), (a_rs, .inl (kA, 41, .inl rsF))] s.heap.size = A at hD ⊢
  have hA : ∀ q : Nat, s.heap.size ≤ q → A q := fun q h => by rw [← hAe]; exact Or.inr h
  have hS : va_S A s.heap s.heap [] := va_S.rf
  obtain ⟨Q, hQ⟩ : ∃ Q : State → Prop, Q = MQ below (va_Qi (fun (r : Int32) (u : Unit) => K r) (poW (dC, dI) A (fun (u : Unit) => [(a_x, .inr (6, [.ref a_pl, .ref a_lo, .ref a_sh, .long trc])), (a_pl, .inr (3, [.int days, .ref a_tk, .ref a_rs])), (a_tk, tkE tkk tkd tkp tkr tkc), (a_rs, .inl (kA, 41, .inl rsF))])) A) args s 0 0 A := ⟨_, rfl⟩
  rw [← hQ]
  have hP : va_P (dC, dI) vwCl [(a_x, .inr (6, [.ref a_pl, .ref a_lo, .ref a_sh, .long trc])), (a_pl, .inr (3, [.int days, .ref a_tk, .ref a_rs])), (a_tk, tkE tkk tkd tkp tkr tkc), (a_rs, .inl (kA, 41, .inl rsF))] s.heap := hP
  refine en_ok hargs (Nat.le_of_ble_eq_true rfl) (fun ls hl => ?_)
  have hl : lv_has ls 4 [(0, .ref a_x), (1, .int p1), (2, .int p2), (3, .int p3)] := hl
  have h := hg
  unfold g_X6_ratio at h
  refine lv_aload_n hx hb dX6_ratio_0 rfl (lv_at hl 0 rfl) ?_
  refine va_get (D := (dC, dI)) (ci := 6) (v := .ref a_pl) (C := RX6) (T := TX6) (N := 4) hx hb hts (fun _ h => List.mem_cons_of_mem _ (List.mem_append_left _ (List.mem_append_left _ (List.mem_append_left _ (List.mem_append_left _ (List.mem_append_right _ h)))))) hown hK hP 0 rfl rfl 0 (by decide) (hts (.fieldLink RX6 10 "RentOrBuy" "plans" "LRentOrBuy$Plans;") (List.mem_cons_of_mem _ (List.mem_append_left _ (List.mem_append_left _ (List.mem_append_left _ (List.mem_append_left _ (List.mem_append_left _ (List.mem_of_getElem? (i := 0) rfl)))))))) (fun _ h9 => h9) rfl dX6_ratio_1 ?_
  refine lv_iload_n hx hb dX6_ratio_4 rfl (lv_at hl 1 rfl) ?_
  have hPc := hP.sub (ws' := [(a_pl, .inr (3, [.int days, .ref a_tk, .ref a_rs]))]) [1] rfl
  have hDc := hD.sub (ws' := [(a_pl, .inr (3, [.int days, .ref a_tk, .ref a_rs]))]) [1] (by decide) rfl
  refine fr_i (wr := [(a_x, .inr (6, [.ref a_pl, .ref a_lo, .ref a_sh, .long trc])), (a_tk, tkE tkk tkd tkp tkr tkc), (a_rs, .inl (kA, 41, .inl rsF))]) (WN := fun (u5 : Unit) => [(a_x, .inr (6, [.ref a_pl, .ref a_lo, .ref a_sh, .long trc])), (a_pl, .inr (3, [.int days, .ref a_tk, .ref a_rs])), (a_tk, tkE tkk tkd tkp tkr tkc), (a_rs, .inl (kA, 41, .inl rsF))]) (va_runV (As := [.int p1]) (rest := []) ⟨hx, hb, hml, hown, hts⟩ (c_X3_isPlan l dC dI kA a_pl a_tk a_rs s.heap.size days p1 _ h) (cwV 1 hts gX6_ratio_X3_isPlan rfl rfl rfl (by decide +kernel) ⟨Nat.le_of_ble_eq_true rfl, Nat.le_of_ble_eq_true rfl⟩) (prW.preV (ci := 3) (q0 := 0) hPc hDc hK hN rfl rfl) rfl rfl hl.1 rfl (lv_room (Nat.le_of_ble_eq_true rfl)) dX6_ratio_5 ⟨Nat.le_of_ble_eq_true rfl, Nat.le_of_ble_eq_true rfl⟩) hP hD hS hA [1] [0, 2, 3] rfl rfl (by decide) (by decide) [0, 3, 1, 2] (by decide) (fun _ => rfl) (fun r5 u5 H locs h hP hD hS => ?_)
  have hP : va_P (dC, dI) vwCl [(a_x, .inr (6, [.ref a_pl, .ref a_lo, .ref a_sh, .long trc])), (a_pl, .inr (3, [.int days, .ref a_tk, .ref a_rs])), (a_tk, tkE tkk tkd tkp tkr tkc), (a_rs, .inl (kA, 41, .inl rsF))] H := hP
  have hD : va_D A [(a_x, .inr (6, [.ref a_pl, .ref a_lo, .ref a_sh, .long trc])), (a_pl, .inr (3, [.int days, .ref a_tk, .ref a_rs])), (a_tk, tkE tkk tkd tkp tkr tkc), (a_rs, .inl (kA, 41, .inl rsF))] := hD
  refine lv_if_eq (tgt := 35) hx hb dX6_ratio_8 (by decide) (fun c8 => ?_) (fun c8 => ?_)
  · replace h := h.1 c8
    refine lv_iconst (v := (-1 : Int32)) hx hb dX6_ratio_35 (by decide +kernel) ?_
    rw [hQ]
    exact rt_i () hx hb hr hlocks h hP hD hS dX6_ratio_36
  · replace h := h.2 c8
    refine lv_iload_n hx hb dX6_ratio_11 rfl (lv_at hl 2 rfl) ?_
    obtain ⟨J26, hR26, h⟩ := h
    have hJ26 : J26 → ∀ (H : Heap) (locs : List Loc) (ls : Array Slot), va_P (dC, dI) vwCl [(a_x, .inr (6, [.ref a_pl, .ref a_lo, .ref a_sh, .long trc])), (a_pl, .inr (3, [.int days, .ref a_tk, .ref a_rs])), (a_tk, tkE tkk tkd tkp tkr tkc), (a_rs, .inl (kA, 41, .inl rsF))] H → va_D A [(a_x, .inr (6, [.ref a_pl, .ref a_lo, .ref a_sh, .long trc])), (a_pl, .inr (3, [.int days, .ref a_tk, .ref a_rs])), (a_tk, tkE tkk tkd tkp tkr tkc), (a_rs, .inl (kA, 41, .inl rsF))] → va_S A s.heap H locs → lv_has ls 4 [(0, .ref a_x), (1, .int p1), (2, .int p2), (3, .int p3)] → W p l e (headSpec wsX6_ratio rmX6_ratio).room s m args below meth c H locs 0 0 Q (F0 m 26 ls []) := by
      intro  h H locs ls hP hD hS hl
      replace h := hR26  h
      refine lv_iload_n hx hb dX6_ratio_26 rfl (lv_at hl 3 rfl) ?_
      refine lv_iconst (v := (0 : Int32)) hx hb dX6_ratio_27 (by decide +kernel) ?_
      refine lv_iconst (v := (1 : Int32)) hx hb dX6_ratio_28 (by decide +kernel) ?_
      have hPc := hP.sub (ws' := []) [] rfl
      have hDc := hD.sub (ws' := []) [] (by decide) rfl
      refine fr_i (wr := [(a_x, .inr (6, [.ref a_pl, .ref a_lo, .ref a_sh, .long trc])), (a_pl, .inr (3, [.int days, .ref a_tk, .ref a_rs])), (a_tk, tkE tkk tkd tkp tkr tkc), (a_rs, .inl (kA, 41, .inl rsF))]) (WN := fun (u29 : Unit) => [(a_x, .inr (6, [.ref a_pl, .ref a_lo, .ref a_sh, .long trc])), (a_pl, .inr (3, [.int days, .ref a_tk, .ref a_rs])), (a_tk, tkE tkk tkd tkp tkr tkc), (a_rs, .inl (kA, 41, .inl rsF))]) (va_runS (As := [.int p3, .int (0 : Int32), .int (1 : Int32)]) (rest := []) ⟨hx, hb, hml, hown, hts⟩ (c_X6_isWithin l dC dI kA H.size p3 (0 : Int32) (1 : Int32) _ h) (va_cwS 3 hts gX6_ratio_X6_isWithin rfl rfl rfl (by decide +kernel) ⟨Nat.le_of_ble_eq_true rfl, Nat.le_of_ble_eq_true rfl⟩) (prW.preS hPc hDc hK hN) rfl rfl hl.1 rfl (lv_room (Nat.le_of_ble_eq_true rfl)) dX6_ratio_29 ⟨Nat.le_of_ble_eq_true rfl, Nat.le_of_ble_eq_true rfl⟩) hP hD hS hA [] [0, 1, 2, 3] rfl rfl (by decide) (by decide) [0, 1, 2, 3] (by decide) (fun _ => rfl) (fun r29 u29 H locs h hP hD hS => ?_)
      have hP : va_P (dC, dI) vwCl [(a_x, .inr (6, [.ref a_pl, .ref a_lo, .ref a_sh, .long trc])), (a_pl, .inr (3, [.int days, .ref a_tk, .ref a_rs])), (a_tk, tkE tkk tkd tkp tkr tkc), (a_rs, .inl (kA, 41, .inl rsF))] H := hP
      have hD : va_D A [(a_x, .inr (6, [.ref a_pl, .ref a_lo, .ref a_sh, .long trc])), (a_pl, .inr (3, [.int days, .ref a_tk, .ref a_rs])), (a_tk, tkE tkk tkd tkp tkr tkc), (a_rs, .inl (kA, 41, .inl rsF))] := hD
      refine lv_if_ne (tgt := 37) hx hb dX6_ratio_32 (by decide) (fun c32 => ?_) (fun c32 => ?_)
      · replace h := h.1 c32
        refine lv_aload_n hx hb dX6_ratio_37 rfl (lv_at hl 0 rfl) ?_
        refine va_get (D := (dC, dI)) (ci := 6) (v := .ref a_pl) (C := RX6) (T := TX6) (N := 4) hx hb hts (fun _ h => List.mem_cons_of_mem _ (List.mem_append_left _ (List.mem_append_left _ (List.mem_append_left _ (List.mem_append_left _ (List.mem_append_right _ h)))))) hown hK hP 0 rfl rfl 0 (by decide) (hts (.fieldLink RX6 10 "RentOrBuy" "plans" "LRentOrBuy$Plans;") (List.mem_cons_of_mem _ (List.mem_append_left _ (List.mem_append_left _ (List.mem_append_left _ (List.mem_append_left _ (List.mem_append_left _ (List.mem_of_getElem? (i := 0) rfl)))))))) (fun _ h9 => h9) rfl dX6_ratio_38 ?_
        refine lv_iload_n hx hb dX6_ratio_41 rfl (lv_at hl 1 rfl) ?_
        refine lv_iload_n hx hb dX6_ratio_42 rfl (lv_at hl 2 rfl) ?_
        obtain ⟨J58, hR58, h⟩ := h
        have hJ58 : ∀ (t0_58 : Int32), J58 t0_58 → ∀ (H : Heap) (locs : List Loc) (ls : Array Slot), va_P (dC, dI) vwCl [(a_x, .inr (6, [.ref a_pl, .ref a_lo, .ref a_sh, .long trc])), (a_pl, .inr (3, [.int days, .ref a_tk, .ref a_rs])), (a_tk, tkE tkk tkd tkp tkr tkc), (a_rs, .inl (kA, 41, .inl rsF))] H → va_D A [(a_x, .inr (6, [.ref a_pl, .ref a_lo, .ref a_sh, .long trc])), (a_pl, .inr (3, [.int days, .ref a_tk, .ref a_rs])), (a_tk, tkE tkk tkd tkp tkr tkc), (a_rs, .inl (kA, 41, .inl rsF))] → va_S A s.heap H locs → lv_has ls 4 [(3, .int p3)] → W p l e (headSpec wsX6_ratio rmX6_ratio).room s m args below meth c H locs 0 0 Q (F0 m 58 ls [.int t0_58, .int p1, .ref a_pl]) := by
          intro t0_58 h H locs ls hP hD hS hl
          replace h := hR58 t0_58 h
          refine lv_iload_n hx hb dX6_ratio_58 rfl (lv_at hl 0 rfl) ?_
          have hPc := hP.sub (ws' := [(a_pl, .inr (3, [.int days, .ref a_tk, .ref a_rs])), (a_tk, tkE tkk tkd tkp tkr tkc), (a_rs, .inl (kA, 41, .inl rsF))]) [1, 2, 3] rfl
          have hDc := hD.sub (ws' := [(a_pl, .inr (3, [.int days, .ref a_tk, .ref a_rs])), (a_tk, tkE tkk tkd tkp tkr tkc), (a_rs, .inl (kA, 41, .inl rsF))]) [1, 2, 3] (by decide) rfl
          refine fr_i (wr := [(a_x, .inr (6, [.ref a_pl, .ref a_lo, .ref a_sh, .long trc]))]) (WN := fun (u59 : Unit) => [(a_x, .inr (6, [.ref a_pl, .ref a_lo, .ref a_sh, .long trc])), (a_pl, .inr (3, [.int days, .ref a_tk, .ref a_rs])), (a_tk, tkE tkk tkd tkp tkr tkc), (a_rs, .inl (kA, 41, .inl rsF))]) (va_runV (As := [.int p1, .int t0_58, .int p3]) (rest := []) ⟨hx, hb, hml, hown, hts⟩ (c_X3_ratioPart l dC dI kA a_pl a_tk a_rs H.size days tkk tkd tkp tkr tkc rsF p1 t0_58 p3 _ h) (cwV 3 hts gX6_ratio_X3_ratioPart rfl rfl rfl (by decide +kernel) ⟨Nat.le_of_ble_eq_true rfl, Nat.le_of_ble_eq_true rfl⟩) (prW.preV (ci := 3) (q0 := 0) hPc hDc hK hN rfl rfl) rfl rfl hl.1 rfl (lv_room (Nat.le_of_ble_eq_true rfl)) dX6_ratio_59 ⟨Nat.le_of_ble_eq_true rfl, Nat.le_of_ble_eq_true rfl⟩) hP hD hS hA [1, 2, 3] [0] rfl rfl (by decide) (by decide) [0, 1, 2, 3] (by decide) (fun _ => rfl) (fun r59 u59 H locs h hP hD hS => ?_)
          have hP : va_P (dC, dI) vwCl [(a_x, .inr (6, [.ref a_pl, .ref a_lo, .ref a_sh, .long trc])), (a_pl, .inr (3, [.int days, .ref a_tk, .ref a_rs])), (a_tk, tkE tkk tkd tkp tkr tkc), (a_rs, .inl (kA, 41, .inl rsF))] H := hP
          have hD : va_D A [(a_x, .inr (6, [.ref a_pl, .ref a_lo, .ref a_sh, .long trc])), (a_pl, .inr (3, [.int days, .ref a_tk, .ref a_rs])), (a_tk, tkE tkk tkd tkp tkr tkc), (a_rs, .inl (kA, 41, .inl rsF))] := hD
          rw [hQ]
          exact rt_i () hx hb hr hlocks h hP hD hS dX6_ratio_62
        refine lv_if_ne (tgt := 57) hx hb dX6_ratio_43 (by decide) (fun c43 => ?_) (fun c43 => ?_)
        · replace h := h.1 c43
          refine lv_iload_n hx hb dX6_ratio_57 rfl (lv_at hl 2 rfl) ?_
          exact hJ58 p2 h _ _ _ hP hD hS (lv_sub hl [3] rfl)
        · replace h := h.2 c43
          refine lv_aload_n hx hb dX6_ratio_46 rfl (lv_at hl 0 rfl) ?_
          refine va_get (D := (dC, dI)) (ci := 6) (v := .ref a_pl) (C := RX6) (T := TX6) (N := 4) hx hb hts (fun _ h => List.mem_cons_of_mem _ (List.mem_append_left _ (List.mem_append_left _ (List.mem_append_left _ (List.mem_append_left _ (List.mem_append_right _ h)))))) hown hK hP 0 rfl rfl 0 (by decide) (hts (.fieldLink RX6 10 "RentOrBuy" "plans" "LRentOrBuy$Plans;") (List.mem_cons_of_mem _ (List.mem_append_left _ (List.mem_append_left _ (List.mem_append_left _ (List.mem_append_left _ (List.mem_append_left _ (List.mem_of_getElem? (i := 0) rfl)))))))) (fun _ h9 => h9) rfl dX6_ratio_47 ?_
          refine lv_iload_n hx hb dX6_ratio_50 rfl (lv_at hl 1 rfl) ?_
          have hPc := hP.sub (ws' := [(a_pl, .inr (3, [.int days, .ref a_tk, .ref a_rs])), (a_tk, tkE tkk tkd tkp tkr tkc), (a_rs, .inl (kA, 41, .inl rsF))]) [1, 2, 3] rfl
          have hDc := hD.sub (ws' := [(a_pl, .inr (3, [.int days, .ref a_tk, .ref a_rs])), (a_tk, tkE tkk tkd tkp tkr tkc), (a_rs, .inl (kA, 41, .inl rsF))]) [1, 2, 3] (by decide) rfl
          refine fr_i (wr := [(a_x, .inr (6, [.ref a_pl, .ref a_lo, .ref a_sh, .long trc]))]) (WN := fun (u51 : Unit) => [(a_x, .inr (6, [.ref a_pl, .ref a_lo, .ref a_sh, .long trc])), (a_pl, .inr (3, [.int days, .ref a_tk, .ref a_rs])), (a_tk, tkE tkk tkd tkp tkr tkc), (a_rs, .inl (kA, 41, .inl rsF))]) (va_runV (As := [.int p1]) (rest := [.int p1, .ref a_pl]) ⟨hx, hb, hml, hown, hts⟩ (c_X3_worstEnd l dC dI kA a_pl a_tk a_rs H.size days tkk tkd tkp tkr tkc rsF p1 _ h) (cwV 1 hts gX6_ratio_X3_worstEnd rfl rfl rfl (by decide +kernel) ⟨Nat.le_of_ble_eq_true rfl, Nat.le_of_ble_eq_true rfl⟩) (prW.preV (ci := 3) (q0 := 0) hPc hDc hK hN rfl rfl) rfl rfl hl.1 rfl (lv_room (Nat.le_of_ble_eq_true rfl)) dX6_ratio_51 ⟨Nat.le_of_ble_eq_true rfl, Nat.le_of_ble_eq_true rfl⟩) hP hD hS hA [1, 2, 3] [0] rfl rfl (by decide) (by decide) [0, 1, 2, 3] (by decide) (fun _ => rfl) (fun r51 u51 H locs h hP hD hS => ?_)
          have hP : va_P (dC, dI) vwCl [(a_x, .inr (6, [.ref a_pl, .ref a_lo, .ref a_sh, .long trc])), (a_pl, .inr (3, [.int days, .ref a_tk, .ref a_rs])), (a_tk, tkE tkk tkd tkp tkr tkc), (a_rs, .inl (kA, 41, .inl rsF))] H := hP
          have hD : va_D A [(a_x, .inr (6, [.ref a_pl, .ref a_lo, .ref a_sh, .long trc])), (a_pl, .inr (3, [.int days, .ref a_tk, .ref a_rs])), (a_tk, tkE tkk tkd tkp tkr tkc), (a_rs, .inl (kA, 41, .inl rsF))] := hD
          refine lv_goto (tgt := 58) hx hb dX6_ratio_54 (by decide) ?_
          exact hJ58 r51 h _ _ _ hP hD hS (lv_sub hl [3] rfl)
      · replace h := h.2 c32
        refine lv_iconst (v := (-1 : Int32)) hx hb dX6_ratio_35 (by decide +kernel) ?_
        rw [hQ]
        exact rt_i () hx hb hr hlocks h hP hD hS dX6_ratio_36
    refine lv_if_eq (tgt := 26) hx hb dX6_ratio_12 (by decide) (fun c12 => ?_) (fun c12 => ?_)
    · replace h := h.1 c12
      exact hJ26 h _ _ _ hP hD hS (lv_sub hl [0, 1, 2, 3] rfl)
    · replace h := h.2 c12
      refine lv_aload_n hx hb dX6_ratio_15 rfl (lv_at hl 0 rfl) ?_
      refine va_get (D := (dC, dI)) (ci := 6) (v := .ref a_pl) (C := RX6) (T := TX6) (N := 4) hx hb hts (fun _ h => List.mem_cons_of_mem _ (List.mem_append_left _ (List.mem_append_left _ (List.mem_append_left _ (List.mem_append_left _ (List.mem_append_right _ h)))))) hown hK hP 0 rfl rfl 0 (by decide) (hts (.fieldLink RX6 10 "RentOrBuy" "plans" "LRentOrBuy$Plans;") (List.mem_cons_of_mem _ (List.mem_append_left _ (List.mem_append_left _ (List.mem_append_left _ (List.mem_append_left _ (List.mem_append_left _ (List.mem_of_getElem? (i := 0) rfl)))))))) (fun _ h9 => h9) rfl dX6_ratio_16 ?_
      refine lv_iload_n hx hb dX6_ratio_19 rfl (lv_at hl 2 rfl) ?_
      have hPc := hP.sub (ws' := [(a_pl, .inr (3, [.int days, .ref a_tk, .ref a_rs]))]) [1] rfl
      have hDc := hD.sub (ws' := [(a_pl, .inr (3, [.int days, .ref a_tk, .ref a_rs]))]) [1] (by decide) rfl
      refine fr_i (wr := [(a_x, .inr (6, [.ref a_pl, .ref a_lo, .ref a_sh, .long trc])), (a_tk, tkE tkk tkd tkp tkr tkc), (a_rs, .inl (kA, 41, .inl rsF))]) (WN := fun (u20 : Unit) => [(a_x, .inr (6, [.ref a_pl, .ref a_lo, .ref a_sh, .long trc])), (a_pl, .inr (3, [.int days, .ref a_tk, .ref a_rs])), (a_tk, tkE tkk tkd tkp tkr tkc), (a_rs, .inl (kA, 41, .inl rsF))]) (va_runV (As := [.int p2]) (rest := []) ⟨hx, hb, hml, hown, hts⟩ (c_X3_isEnd l dC dI kA a_pl a_tk a_rs H.size days p2 _ h) (cwV 1 hts gX6_ratio_X3_isEnd rfl rfl rfl (by decide +kernel) ⟨Nat.le_of_ble_eq_true rfl, Nat.le_of_ble_eq_true rfl⟩) (prW.preV (ci := 3) (q0 := 0) hPc hDc hK hN rfl rfl) rfl rfl hl.1 rfl (lv_room (Nat.le_of_ble_eq_true rfl)) dX6_ratio_20 ⟨Nat.le_of_ble_eq_true rfl, Nat.le_of_ble_eq_true rfl⟩) hP hD hS hA [1] [0, 2, 3] rfl rfl (by decide) (by decide) [0, 3, 1, 2] (by decide) (fun _ => rfl) (fun r20 u20 H locs h hP hD hS => ?_)
      have hP : va_P (dC, dI) vwCl [(a_x, .inr (6, [.ref a_pl, .ref a_lo, .ref a_sh, .long trc])), (a_pl, .inr (3, [.int days, .ref a_tk, .ref a_rs])), (a_tk, tkE tkk tkd tkp tkr tkc), (a_rs, .inl (kA, 41, .inl rsF))] H := hP
      have hD : va_D A [(a_x, .inr (6, [.ref a_pl, .ref a_lo, .ref a_sh, .long trc])), (a_pl, .inr (3, [.int days, .ref a_tk, .ref a_rs])), (a_tk, tkE tkk tkd tkp tkr tkc), (a_rs, .inl (kA, 41, .inl rsF))] := hD
      refine lv_if_eq (tgt := 35) hx hb dX6_ratio_23 (by decide) (fun c23 => ?_) (fun c23 => ?_)
      · replace h := h.1 c23
        refine lv_iconst (v := (-1 : Int32)) hx hb dX6_ratio_35 (by decide +kernel) ?_
        rw [hQ]
        exact rt_i () hx hb hr hlocks h hP hD hS dX6_ratio_36
      · replace h := h.2 c23
        exact hJ26 h _ _ _ hP hD hS (lv_sub hl [0, 1, 2, 3] rfl)

/-- RentOrBuy.rent, kind 0 -/
def rmX6_rent_k0 : Room := { frames := 3, cells := 0, slots := 0, locals := 63 }
set_option maxHeartbeats 4000000 in
set_option maxRecDepth 100000 in
theorem c_X6_rent_k0 (l : Launch) (dC : Nat → ClassId) (dI : Nat → Nat → Nat) (kA : ClassId) (a_x a_pl a_tk a_lo a_sh a_rs : Nat) (sz : Nat) (trc : Int64) (days : Int32) (tkd : Int32) (tkp : Int32) (p1 : Int32) (K : Int32 → Int64 → Prop) (hg : g_X6_rent_k0 trc days tkd tkp p1 K) : Met l yX6_rent wsX6_rent rmX6_rent_k0 (va_Pc [.ref a_x, .int p1] (prW (dC, dI) kA sz [(a_x, .inr (6, [.ref a_pl, .ref a_lo, .ref a_sh, .long trc])), (a_pl, .inr (3, [.int days, .ref a_tk, .ref a_rs])), (a_tk, .inr (1, [.int tkd, .int tkp]))])) (va_Qi (fun (r : Int32) (u : Int64) => K r u) (poW (dC, dI) (va_A [(a_x, .inr (6, [.ref a_pl, .ref a_lo, .ref a_sh, .long trc])), (a_pl, .inr (3, [.int days, .ref a_tk, .ref a_rs])), (a_tk, .inr (1, [.int tkd, .int tkp]))] sz) (fun (u : Int64) => [(a_x, .inr (6, [.ref a_pl, .ref a_lo, .ref a_sh, .long u])), (a_pl, .inr (3, [.int days, .ref a_tk, .ref a_rs])), (a_tk, .inr (1, [.int tkd, .int tkp]))])) (va_A [(a_x, .inr (6, [.ref a_pl, .ref a_lo, .ref a_sh, .long trc])), (a_pl, .inr (3, [.int days, .ref a_tk, .ref a_rs])), (a_tk, .inr (1, [.int tkd, .int tkp]))] sz)) 0 0 (va_A [(a_x, .inr (6, [.ref a_pl, .ref a_lo, .ref a_sh, .long trc])), (a_pl, .inr (3, [.int days, .ref a_tk, .ref a_rs])), (a_tk, .inr (1, [.int tkd, .int tkp]))] sz) := by
  refine Met.ofW (cc := cX6_rent) (maxL := 2) (ret := (some .int)) (by decide) rfl ?_
  intro p e s m args below meth c s₁ B hml hv
  obtain ⟨hargs, hsz, hP, hK, hD0, hN⟩ := hv
  have hx := B.exec
  have hb := B.bytes
  have hr := B.returns
  have hts := atoms_spec (ws := wsX6_rent) B.pre
  have hown : s.vm.findClass RX6 = some m.cls := findClass_of_methodNamed B.named
  have hlocks := B.notSynchronized
  subst hsz
  have hD := hD0.self (sz := s.heap.size)
  generalize hAe : va_A [(a_x, .inr (6, [.ref a_pl, .ref a_lo, .ref a_sh, .long trc])), (a_pl, .inr (3, [.int days, .ref a_tk, .ref a_rs])), (a_tk, .inr (1, [.int tkd, .int tkp]))] s.heap.size = A at hD ⊢
  have hA : ∀ q : Nat, s.heap.size ≤ q → A q := fun q h => by rw [← hAe]; exact Or.inr h
  have hS : va_S A s.heap s.heap [] := va_S.rf
  obtain ⟨Q, hQ⟩ : ∃ Q : State → Prop, Q = MQ below (va_Qi (fun (r : Int32) (u : Int64) => K r u) (poW (dC, dI) A (fun (u : Int64) => [(a_x, .inr (6, [.ref a_pl, .ref a_lo, .ref a_sh, .long u])), (a_pl, .inr (3, [.int days, .ref a_tk, .ref a_rs])), (a_tk, .inr (1, [.int tkd, .int tkp]))])) A) args s 0 0 A := ⟨_, rfl⟩
  rw [← hQ]
  have hP : va_P (dC, dI) vwCl [(a_x, .inr (6, [.ref a_pl, .ref a_lo, .ref a_sh, .long trc])), (a_pl, .inr (3, [.int days, .ref a_tk, .ref a_rs])), (a_tk, .inr (1, [.int tkd, .int tkp]))] s.heap := hP
  refine en_ok hargs (Nat.le_of_ble_eq_true rfl) (fun ls hl => ?_)
  have hl : lv_has ls 2 [(0, .ref a_x), (1, .int p1)] := hl
  have h := hg
  unfold g_X6_rent_k0 at h
  refine lv_iload_n hx hb dX6_rent_0 rfl (lv_at hl 1 rfl) ?_
  refine lv_iconst (v := (1 : Int32)) hx hb dX6_rent_1 (by decide +kernel) ?_
  refine lv_bipush (v := (40 : Int32)) hx hb dX6_rent_2 (by decide +kernel) ?_
  have hPc := hP.sub (ws' := []) [] rfl
  have hDc := hD.sub (ws' := []) [] (by decide) rfl
  refine fr_i (wr := [(a_x, .inr (6, [.ref a_pl, .ref a_lo, .ref a_sh, .long trc])), (a_pl, .inr (3, [.int days, .ref a_tk, .ref a_rs])), (a_tk, .inr (1, [.int tkd, .int tkp]))]) (WN := fun (u4 : Unit) => [(a_x, .inr (6, [.ref a_pl, .ref a_lo, .ref a_sh, .long trc])), (a_pl, .inr (3, [.int days, .ref a_tk, .ref a_rs])), (a_tk, .inr (1, [.int tkd, .int tkp]))]) (va_runS (As := [.int p1, .int (1 : Int32), .int (40 : Int32)]) (rest := []) ⟨hx, hb, hml, hown, hts⟩ (c_X6_isWithin l dC dI kA s.heap.size p1 (1 : Int32) (40 : Int32) _ h) (va_cwS 3 hts gX6_rent_X6_isWithin rfl rfl rfl (by decide +kernel) ⟨Nat.le_of_ble_eq_true rfl, Nat.le_of_ble_eq_true rfl⟩) (prW.preS hPc hDc hK hN) rfl rfl hl.1 rfl (lv_room (Nat.le_of_ble_eq_true rfl)) dX6_rent_4 ⟨Nat.le_of_ble_eq_true rfl, Nat.le_of_ble_eq_true rfl⟩) hP hD hS hA [] [0, 1, 2] rfl rfl (by decide) (by decide) [0, 1, 2] (by decide) (fun _ => rfl) (fun r4 u4 H locs h hP hD hS => ?_)
  have hP : va_P (dC, dI) vwCl [(a_x, .inr (6, [.ref a_pl, .ref a_lo, .ref a_sh, .long trc])), (a_pl, .inr (3, [.int days, .ref a_tk, .ref a_rs])), (a_tk, .inr (1, [.int tkd, .int tkp]))] H := hP
  have hD : va_D A [(a_x, .inr (6, [.ref a_pl, .ref a_lo, .ref a_sh, .long trc])), (a_pl, .inr (3, [.int days, .ref a_tk, .ref a_rs])), (a_tk, .inr (1, [.int tkd, .int tkp]))] := hD
  refine lv_if_ne (tgt := 12) hx hb dX6_rent_7 (by decide) (fun c7 => ?_) (fun c7 => ?_)
  · replace h := h.1 c7
    refine lv_aload_n hx hb dX6_rent_12 rfl (lv_at hl 0 rfl) ?_
    refine lv_dup hx hb dX6_rent_13 rfl ?_
    refine va_get (D := (dC, dI)) (ci := 6) (v := .long trc) (C := RX6) (T := TX6) (N := 4) hx hb hts (fun _ h => List.mem_cons_of_mem _ (List.mem_append_left _ (List.mem_append_left _ (List.mem_append_left _ (List.mem_append_left _ (List.mem_append_right _ h)))))) hown hK hP 0 rfl rfl 3 (by decide) (hts (.fieldLink RX6 30 "RentOrBuy" "traced" "J") (List.mem_cons_of_mem _ (List.mem_append_left _ (List.mem_append_left _ (List.mem_append_left _ (List.mem_append_left _ (List.mem_append_left _ (List.mem_of_getElem? (i := 0) rfl)))))))) (fun _ h9 => h9) rfl dX6_rent_14 ?_
    refine lv_aload_n hx hb dX6_rent_17 rfl (lv_at hl 0 rfl) ?_
    refine va_get (D := (dC, dI)) (ci := 6) (v := .ref a_pl) (C := RX6) (T := TX6) (N := 4) hx hb hts (fun _ h => List.mem_cons_of_mem _ (List.mem_append_left _ (List.mem_append_left _ (List.mem_append_left _ (List.mem_append_left _ (List.mem_append_right _ h)))))) hown hK hP 0 rfl rfl 0 (by decide) (hts (.fieldLink RX6 10 "RentOrBuy" "plans" "LRentOrBuy$Plans;") (List.mem_cons_of_mem _ (List.mem_append_left _ (List.mem_append_left _ (List.mem_append_left _ (List.mem_append_left _ (List.mem_append_left _ (List.mem_of_getElem? (i := 1) rfl)))))))) (fun _ h9 => h9) rfl dX6_rent_18 ?_
    refine va_getN (D := (dC, dI)) (ci := 3) (v := .ref a_tk) (C := RX3) (T := TX3) (N := 3) hx hb hts (fun _ h => List.mem_cons_of_mem _ (List.mem_append_left _ (List.mem_append_left _ (List.mem_append_left _ (List.mem_append_right _ h))))) hown hK hP 1 rfl rfl 1 (by decide) (hN.f 3 rfl) (fun _ h9 => h9) rfl dX6_rent_21 ?_
    have hPc := hP.sub (ws' := [(a_tk, .inr (1, [.int tkd, .int tkp]))]) [2] rfl
    have hDc := hD.sub (ws' := [(a_tk, .inr (1, [.int tkd, .int tkp]))]) [2] (by decide) rfl
    refine fr_i (wr := [(a_x, .inr (6, [.ref a_pl, .ref a_lo, .ref a_sh, .long trc])), (a_pl, .inr (3, [.int days, .ref a_tk, .ref a_rs]))]) (WN := fun (u24 : Unit) => [(a_x, .inr (6, [.ref a_pl, .ref a_lo, .ref a_sh, .long trc])), (a_pl, .inr (3, [.int days, .ref a_tk, .ref a_rs])), (a_tk, .inr (1, [.int tkd, .int tkp]))]) (va_runV (As := []) (rest := [.long trc, .ref a_x]) ⟨hx, hb, hml, hown, hts⟩ (c_X1_bodiesAsked_k0 l dC dI kA a_tk H.size tkd tkp _ h) (cwV 0 hts gX6_rent_X1_bodiesAsked rfl rfl rfl (by decide +kernel) ⟨Nat.le_of_ble_eq_true rfl, Nat.le_of_ble_eq_true rfl⟩) (prW.preV (ci := 1) (q0 := 0) hPc hDc hK hN rfl rfl) rfl rfl hl.1 rfl (lv_room (Nat.le_of_ble_eq_true rfl)) dX6_rent_24 ⟨Nat.le_of_ble_eq_true rfl, Nat.le_of_ble_eq_true rfl⟩) hP hD hS hA [2] [0, 1] rfl rfl (by decide) (by decide) [0, 1, 2] (by decide) (fun _ => rfl) (fun r24 u24 H locs h hP hD hS => ?_)
    have hP : va_P (dC, dI) vwCl [(a_x, .inr (6, [.ref a_pl, .ref a_lo, .ref a_sh, .long trc])), (a_pl, .inr (3, [.int days, .ref a_tk, .ref a_rs])), (a_tk, .inr (1, [.int tkd, .int tkp]))] H := hP
    have hD : va_D A [(a_x, .inr (6, [.ref a_pl, .ref a_lo, .ref a_sh, .long trc])), (a_pl, .inr (3, [.int days, .ref a_tk, .ref a_rs])), (a_tk, .inr (1, [.int tkd, .int tkp]))] := hD
    refine lv_i2l hx hb dX6_rent_27 rfl ?_
    refine lv_ladd hx hb dX6_rent_28 ?_
    refine va_put (D := (dC, dI)) (ci := 6) (v := .long (trc + r24.toInt64)) (ty := .long) (C := RX6) (T := TX6) (N := 4) hx hb hts (fun _ h => List.mem_cons_of_mem _ (List.mem_append_left _ (List.mem_append_left _ (List.mem_append_left _ (List.mem_append_left _ (List.mem_append_right _ h)))))) tyX6 tyX6_ok nmX6 hown hK hP hD hS 0 rfl rfl 3 (by decide) (hts (.fieldLink RX6 30 "RentOrBuy" "traced" "J") (List.mem_cons_of_mem _ (List.mem_append_left _ (List.mem_append_left _ (List.mem_append_left _ (List.mem_append_left _ (List.mem_append_left _ (List.mem_of_getElem? (i := 0) rfl)))))))) (fun _ h9 => h9) rfl (by decide +kernel) rfl rfl (Nat.le_of_ble_eq_true rfl) dX6_rent_29 (fun H locs hP hD hS => ?_)
    have hP : va_P (dC, dI) vwCl [(a_x, .inr (6, [.ref a_pl, .ref a_lo, .ref a_sh, .long (trc + r24.toInt64)])), (a_pl, .inr (3, [.int days, .ref a_tk, .ref a_rs])), (a_tk, .inr (1, [.int tkd, .int tkp]))] H := hP
    have hD : va_D A [(a_x, .inr (6, [.ref a_pl, .ref a_lo, .ref a_sh, .long (trc + r24.toInt64)])), (a_pl, .inr (3, [.int days, .ref a_tk, .ref a_rs])), (a_tk, .inr (1, [.int tkd, .int tkp]))] := hD
    refine lv_aload_n hx hb dX6_rent_32 rfl (lv_at hl 0 rfl) ?_
    refine va_get (D := (dC, dI)) (ci := 6) (v := .ref a_pl) (C := RX6) (T := TX6) (N := 4) hx hb hts (fun _ h => List.mem_cons_of_mem _ (List.mem_append_left _ (List.mem_append_left _ (List.mem_append_left _ (List.mem_append_left _ (List.mem_append_right _ h)))))) hown hK hP 0 rfl rfl 0 (by decide) (hts (.fieldLink RX6 10 "RentOrBuy" "plans" "LRentOrBuy$Plans;") (List.mem_cons_of_mem _ (List.mem_append_left _ (List.mem_append_left _ (List.mem_append_left _ (List.mem_append_left _ (List.mem_append_left _ (List.mem_of_getElem? (i := 1) rfl)))))))) (fun _ h9 => h9) rfl dX6_rent_33 ?_
    refine va_getN (D := (dC, dI)) (ci := 3) (v := .ref a_tk) (C := RX3) (T := TX3) (N := 3) hx hb hts (fun _ h => List.mem_cons_of_mem _ (List.mem_append_left _ (List.mem_append_left _ (List.mem_append_left _ (List.mem_append_right _ h))))) hown hK hP 1 rfl rfl 1 (by decide) (hN.f 3 rfl) (fun _ h9 => h9) rfl dX6_rent_36 ?_
    refine lv_iload_n hx hb dX6_rent_39 rfl (lv_at hl 1 rfl) ?_
    have hPc := hP.sub (ws' := [(a_tk, .inr (1, [.int tkd, .int tkp]))]) [2] rfl
    have hDc := hD.sub (ws' := [(a_tk, .inr (1, [.int tkd, .int tkp]))]) [2] (by decide) rfl
    refine fr_i (wr := [(a_x, .inr (6, [.ref a_pl, .ref a_lo, .ref a_sh, .long (trc + r24.toInt64)])), (a_pl, .inr (3, [.int days, .ref a_tk, .ref a_rs]))]) (WN := fun (u40 : Unit) => [(a_x, .inr (6, [.ref a_pl, .ref a_lo, .ref a_sh, .long (trc + r24.toInt64)])), (a_pl, .inr (3, [.int days, .ref a_tk, .ref a_rs])), (a_tk, .inr (1, [.int tkd, .int tkp]))]) (va_runV (As := [.int p1]) (rest := []) ⟨hx, hb, hml, hown, hts⟩ (c_X1_rentOf_k0 l dC dI kA a_tk H.size tkd tkp p1 _ h) (cwV 1 hts gX6_rent_X1_rentOf rfl rfl rfl (by decide +kernel) ⟨Nat.le_of_ble_eq_true rfl, Nat.le_of_ble_eq_true rfl⟩) (prW.preV (ci := 1) (q0 := 0) hPc hDc hK hN rfl rfl) rfl rfl hl.1 rfl (lv_room (Nat.le_of_ble_eq_true rfl)) dX6_rent_40 ⟨Nat.le_of_ble_eq_true rfl, Nat.le_of_ble_eq_true rfl⟩) hP hD hS hA [2] [0, 1] rfl rfl (by decide) (by decide) [0, 1, 2] (by decide) (fun _ => rfl) (fun r40 u40 H locs h hP hD hS => ?_)
    have hP : va_P (dC, dI) vwCl [(a_x, .inr (6, [.ref a_pl, .ref a_lo, .ref a_sh, .long (trc + r24.toInt64)])), (a_pl, .inr (3, [.int days, .ref a_tk, .ref a_rs])), (a_tk, .inr (1, [.int tkd, .int tkp]))] H := hP
    have hD : va_D A [(a_x, .inr (6, [.ref a_pl, .ref a_lo, .ref a_sh, .long (trc + r24.toInt64)])), (a_pl, .inr (3, [.int days, .ref a_tk, .ref a_rs])), (a_tk, .inr (1, [.int tkd, .int tkp]))] := hD
    rw [hQ]
    exact rt_i ((trc + r24.toInt64)) hx hb hr hlocks h hP hD hS dX6_rent_43
  · replace h := h.2 c7
    refine lv_iconst (v := (-1 : Int32)) hx hb dX6_rent_10 (by decide +kernel) ?_
    rw [hQ]
    exact rt_i (trc) hx hb hr hlocks h hP hD hS dX6_rent_11

/-- RentOrBuy.rent, kind 1 -/
def rmX6_rent_k1 : Room := { frames := 3, cells := 0, slots := 0, locals := 63 }
set_option maxHeartbeats 4000000 in
set_option maxRecDepth 100000 in
theorem c_X6_rent_k1 (l : Launch) (dC : Nat → ClassId) (dI : Nat → Nat → Nat) (kA : ClassId) (a_x a_pl a_tk a_lo a_sh a_rs : Nat) (sz : Nat) (trc : Int64) (days : Int32) (tkd : Int32) (tkp : Int32) (tkr : Int32) (p1 : Int32) (K : Int32 → Int64 → Prop) (hg : g_X6_rent_k1 trc days tkd tkp tkr p1 K) : Met l yX6_rent wsX6_rent rmX6_rent_k1 (va_Pc [.ref a_x, .int p1] (prW (dC, dI) kA sz [(a_x, .inr (6, [.ref a_pl, .ref a_lo, .ref a_sh, .long trc])), (a_pl, .inr (3, [.int days, .ref a_tk, .ref a_rs])), (a_tk, .inr (4, [.int tkd, .int tkp, .int tkr]))])) (va_Qi (fun (r : Int32) (u : Int64) => K r u) (poW (dC, dI) (va_A [(a_x, .inr (6, [.ref a_pl, .ref a_lo, .ref a_sh, .long trc])), (a_pl, .inr (3, [.int days, .ref a_tk, .ref a_rs])), (a_tk, .inr (4, [.int tkd, .int tkp, .int tkr]))] sz) (fun (u : Int64) => [(a_x, .inr (6, [.ref a_pl, .ref a_lo, .ref a_sh, .long u])), (a_pl, .inr (3, [.int days, .ref a_tk, .ref a_rs])), (a_tk, .inr (4, [.int tkd, .int tkp, .int tkr]))])) (va_A [(a_x, .inr (6, [.ref a_pl, .ref a_lo, .ref a_sh, .long trc])), (a_pl, .inr (3, [.int days, .ref a_tk, .ref a_rs])), (a_tk, .inr (4, [.int tkd, .int tkp, .int tkr]))] sz)) 0 0 (va_A [(a_x, .inr (6, [.ref a_pl, .ref a_lo, .ref a_sh, .long trc])), (a_pl, .inr (3, [.int days, .ref a_tk, .ref a_rs])), (a_tk, .inr (4, [.int tkd, .int tkp, .int tkr]))] sz) := by
  refine Met.ofW (cc := cX6_rent) (maxL := 2) (ret := (some .int)) (by decide) rfl ?_
  intro p e s m args below meth c s₁ B hml hv
  obtain ⟨hargs, hsz, hP, hK, hD0, hN⟩ := hv
  have hx := B.exec
  have hb := B.bytes
  have hr := B.returns
  have hts := atoms_spec (ws := wsX6_rent) B.pre
  have hown : s.vm.findClass RX6 = some m.cls := findClass_of_methodNamed B.named
  have hlocks := B.notSynchronized
  subst hsz
  have hD := hD0.self (sz := s.heap.size)
  generalize hAe : va_A [(a_x, .inr (6, [.ref a_pl, .ref a_lo, .ref a_sh, .long trc])), (a_pl, .inr (3, [.int days, .ref a_tk, .ref a_rs])), (a_tk, .inr (4, [.int tkd, .int tkp, .int tkr]))] s.heap.size = A at hD ⊢
  have hA : ∀ q : Nat, s.heap.size ≤ q → A q := fun q h => by rw [← hAe]; exact Or.inr h
  have hS : va_S A s.heap s.heap [] := va_S.rf
  obtain ⟨Q, hQ⟩ : ∃ Q : State → Prop, Q = MQ below (va_Qi (fun (r : Int32) (u : Int64) => K r u) (poW (dC, dI) A (fun (u : Int64) => [(a_x, .inr (6, [.ref a_pl, .ref a_lo, .ref a_sh, .long u])), (a_pl, .inr (3, [.int days, .ref a_tk, .ref a_rs])), (a_tk, .inr (4, [.int tkd, .int tkp, .int tkr]))])) A) args s 0 0 A := ⟨_, rfl⟩
  rw [← hQ]
  have hP : va_P (dC, dI) vwCl [(a_x, .inr (6, [.ref a_pl, .ref a_lo, .ref a_sh, .long trc])), (a_pl, .inr (3, [.int days, .ref a_tk, .ref a_rs])), (a_tk, .inr (4, [.int tkd, .int tkp, .int tkr]))] s.heap := hP
  refine en_ok hargs (Nat.le_of_ble_eq_true rfl) (fun ls hl => ?_)
  have hl : lv_has ls 2 [(0, .ref a_x), (1, .int p1)] := hl
  have h := hg
  unfold g_X6_rent_k1 at h
  refine lv_iload_n hx hb dX6_rent_0 rfl (lv_at hl 1 rfl) ?_
  refine lv_iconst (v := (1 : Int32)) hx hb dX6_rent_1 (by decide +kernel) ?_
  refine lv_bipush (v := (40 : Int32)) hx hb dX6_rent_2 (by decide +kernel) ?_
  have hPc := hP.sub (ws' := []) [] rfl
  have hDc := hD.sub (ws' := []) [] (by decide) rfl
  refine fr_i (wr := [(a_x, .inr (6, [.ref a_pl, .ref a_lo, .ref a_sh, .long trc])), (a_pl, .inr (3, [.int days, .ref a_tk, .ref a_rs])), (a_tk, .inr (4, [.int tkd, .int tkp, .int tkr]))]) (WN := fun (u4 : Unit) => [(a_x, .inr (6, [.ref a_pl, .ref a_lo, .ref a_sh, .long trc])), (a_pl, .inr (3, [.int days, .ref a_tk, .ref a_rs])), (a_tk, .inr (4, [.int tkd, .int tkp, .int tkr]))]) (va_runS (As := [.int p1, .int (1 : Int32), .int (40 : Int32)]) (rest := []) ⟨hx, hb, hml, hown, hts⟩ (c_X6_isWithin l dC dI kA s.heap.size p1 (1 : Int32) (40 : Int32) _ h) (va_cwS 3 hts gX6_rent_X6_isWithin rfl rfl rfl (by decide +kernel) ⟨Nat.le_of_ble_eq_true rfl, Nat.le_of_ble_eq_true rfl⟩) (prW.preS hPc hDc hK hN) rfl rfl hl.1 rfl (lv_room (Nat.le_of_ble_eq_true rfl)) dX6_rent_4 ⟨Nat.le_of_ble_eq_true rfl, Nat.le_of_ble_eq_true rfl⟩) hP hD hS hA [] [0, 1, 2] rfl rfl (by decide) (by decide) [0, 1, 2] (by decide) (fun _ => rfl) (fun r4 u4 H locs h hP hD hS => ?_)
  have hP : va_P (dC, dI) vwCl [(a_x, .inr (6, [.ref a_pl, .ref a_lo, .ref a_sh, .long trc])), (a_pl, .inr (3, [.int days, .ref a_tk, .ref a_rs])), (a_tk, .inr (4, [.int tkd, .int tkp, .int tkr]))] H := hP
  have hD : va_D A [(a_x, .inr (6, [.ref a_pl, .ref a_lo, .ref a_sh, .long trc])), (a_pl, .inr (3, [.int days, .ref a_tk, .ref a_rs])), (a_tk, .inr (4, [.int tkd, .int tkp, .int tkr]))] := hD
  refine lv_if_ne (tgt := 12) hx hb dX6_rent_7 (by decide) (fun c7 => ?_) (fun c7 => ?_)
  · replace h := h.1 c7
    refine lv_aload_n hx hb dX6_rent_12 rfl (lv_at hl 0 rfl) ?_
    refine lv_dup hx hb dX6_rent_13 rfl ?_
    refine va_get (D := (dC, dI)) (ci := 6) (v := .long trc) (C := RX6) (T := TX6) (N := 4) hx hb hts (fun _ h => List.mem_cons_of_mem _ (List.mem_append_left _ (List.mem_append_left _ (List.mem_append_left _ (List.mem_append_left _ (List.mem_append_right _ h)))))) hown hK hP 0 rfl rfl 3 (by decide) (hts (.fieldLink RX6 30 "RentOrBuy" "traced" "J") (List.mem_cons_of_mem _ (List.mem_append_left _ (List.mem_append_left _ (List.mem_append_left _ (List.mem_append_left _ (List.mem_append_left _ (List.mem_of_getElem? (i := 0) rfl)))))))) (fun _ h9 => h9) rfl dX6_rent_14 ?_
    refine lv_aload_n hx hb dX6_rent_17 rfl (lv_at hl 0 rfl) ?_
    refine va_get (D := (dC, dI)) (ci := 6) (v := .ref a_pl) (C := RX6) (T := TX6) (N := 4) hx hb hts (fun _ h => List.mem_cons_of_mem _ (List.mem_append_left _ (List.mem_append_left _ (List.mem_append_left _ (List.mem_append_left _ (List.mem_append_right _ h)))))) hown hK hP 0 rfl rfl 0 (by decide) (hts (.fieldLink RX6 10 "RentOrBuy" "plans" "LRentOrBuy$Plans;") (List.mem_cons_of_mem _ (List.mem_append_left _ (List.mem_append_left _ (List.mem_append_left _ (List.mem_append_left _ (List.mem_append_left _ (List.mem_of_getElem? (i := 1) rfl)))))))) (fun _ h9 => h9) rfl dX6_rent_18 ?_
    refine va_getN (D := (dC, dI)) (ci := 3) (v := .ref a_tk) (C := RX3) (T := TX3) (N := 3) hx hb hts (fun _ h => List.mem_cons_of_mem _ (List.mem_append_left _ (List.mem_append_left _ (List.mem_append_left _ (List.mem_append_right _ h))))) hown hK hP 1 rfl rfl 1 (by decide) (hN.f 3 rfl) (fun _ h9 => h9) rfl dX6_rent_21 ?_
    have hPc := hP.sub (ws' := [(a_tk, .inr (4, [.int tkd, .int tkp, .int tkr]))]) [2] rfl
    have hDc := hD.sub (ws' := [(a_tk, .inr (4, [.int tkd, .int tkp, .int tkr]))]) [2] (by decide) rfl
    refine fr_i (wr := [(a_x, .inr (6, [.ref a_pl, .ref a_lo, .ref a_sh, .long trc])), (a_pl, .inr (3, [.int days, .ref a_tk, .ref a_rs]))]) (WN := fun (u24 : Unit) => [(a_x, .inr (6, [.ref a_pl, .ref a_lo, .ref a_sh, .long trc])), (a_pl, .inr (3, [.int days, .ref a_tk, .ref a_rs])), (a_tk, .inr (4, [.int tkd, .int tkp, .int tkr]))]) (va_runU (As := []) (rest := [.long trc, .ref a_x]) ⟨hx, hb, hml, hown, hts⟩ (c_X4_bodiesAsked_k1 l dC dI kA a_tk H.size tkd tkp tkr _ h) (va_cwO 0 hts gX6_rent_X4_bodiesAsked_u72X4 rfl rfl rfl (List.mem_cons_of_mem _ (List.mem_append_left _ (List.mem_append_left _ (List.mem_append_left _ (List.mem_append_left _ (List.mem_append_left _ (List.mem_of_getElem? (i := 23) rfl))))))) (by decide +kernel) ⟨Nat.le_of_ble_eq_true rfl, Nat.le_of_ble_eq_true rfl⟩) (prW.preV (ci := 4) (q0 := 0) hPc hDc hK hN rfl rfl) rfl rfl hl.1 rfl (lv_room (Nat.le_of_ble_eq_true rfl)) dX6_rent_24 ⟨Nat.le_of_ble_eq_true rfl, Nat.le_of_ble_eq_true rfl⟩) hP hD hS hA [2] [0, 1] rfl rfl (by decide) (by decide) [0, 1, 2] (by decide) (fun _ => rfl) (fun r24 u24 H locs h hP hD hS => ?_)
    have hP : va_P (dC, dI) vwCl [(a_x, .inr (6, [.ref a_pl, .ref a_lo, .ref a_sh, .long trc])), (a_pl, .inr (3, [.int days, .ref a_tk, .ref a_rs])), (a_tk, .inr (4, [.int tkd, .int tkp, .int tkr]))] H := hP
    have hD : va_D A [(a_x, .inr (6, [.ref a_pl, .ref a_lo, .ref a_sh, .long trc])), (a_pl, .inr (3, [.int days, .ref a_tk, .ref a_rs])), (a_tk, .inr (4, [.int tkd, .int tkp, .int tkr]))] := hD
    refine lv_i2l hx hb dX6_rent_27 rfl ?_
    refine lv_ladd hx hb dX6_rent_28 ?_
    refine va_put (D := (dC, dI)) (ci := 6) (v := .long (trc + r24.toInt64)) (ty := .long) (C := RX6) (T := TX6) (N := 4) hx hb hts (fun _ h => List.mem_cons_of_mem _ (List.mem_append_left _ (List.mem_append_left _ (List.mem_append_left _ (List.mem_append_left _ (List.mem_append_right _ h)))))) tyX6 tyX6_ok nmX6 hown hK hP hD hS 0 rfl rfl 3 (by decide) (hts (.fieldLink RX6 30 "RentOrBuy" "traced" "J") (List.mem_cons_of_mem _ (List.mem_append_left _ (List.mem_append_left _ (List.mem_append_left _ (List.mem_append_left _ (List.mem_append_left _ (List.mem_of_getElem? (i := 0) rfl)))))))) (fun _ h9 => h9) rfl (by decide +kernel) rfl rfl (Nat.le_of_ble_eq_true rfl) dX6_rent_29 (fun H locs hP hD hS => ?_)
    have hP : va_P (dC, dI) vwCl [(a_x, .inr (6, [.ref a_pl, .ref a_lo, .ref a_sh, .long (trc + r24.toInt64)])), (a_pl, .inr (3, [.int days, .ref a_tk, .ref a_rs])), (a_tk, .inr (4, [.int tkd, .int tkp, .int tkr]))] H := hP
    have hD : va_D A [(a_x, .inr (6, [.ref a_pl, .ref a_lo, .ref a_sh, .long (trc + r24.toInt64)])), (a_pl, .inr (3, [.int days, .ref a_tk, .ref a_rs])), (a_tk, .inr (4, [.int tkd, .int tkp, .int tkr]))] := hD
    refine lv_aload_n hx hb dX6_rent_32 rfl (lv_at hl 0 rfl) ?_
    refine va_get (D := (dC, dI)) (ci := 6) (v := .ref a_pl) (C := RX6) (T := TX6) (N := 4) hx hb hts (fun _ h => List.mem_cons_of_mem _ (List.mem_append_left _ (List.mem_append_left _ (List.mem_append_left _ (List.mem_append_left _ (List.mem_append_right _ h)))))) hown hK hP 0 rfl rfl 0 (by decide) (hts (.fieldLink RX6 10 "RentOrBuy" "plans" "LRentOrBuy$Plans;") (List.mem_cons_of_mem _ (List.mem_append_left _ (List.mem_append_left _ (List.mem_append_left _ (List.mem_append_left _ (List.mem_append_left _ (List.mem_of_getElem? (i := 1) rfl)))))))) (fun _ h9 => h9) rfl dX6_rent_33 ?_
    refine va_getN (D := (dC, dI)) (ci := 3) (v := .ref a_tk) (C := RX3) (T := TX3) (N := 3) hx hb hts (fun _ h => List.mem_cons_of_mem _ (List.mem_append_left _ (List.mem_append_left _ (List.mem_append_left _ (List.mem_append_right _ h))))) hown hK hP 1 rfl rfl 1 (by decide) (hN.f 3 rfl) (fun _ h9 => h9) rfl dX6_rent_36 ?_
    refine lv_iload_n hx hb dX6_rent_39 rfl (lv_at hl 1 rfl) ?_
    have hPc := hP.sub (ws' := [(a_tk, .inr (4, [.int tkd, .int tkp, .int tkr]))]) [2] rfl
    have hDc := hD.sub (ws' := [(a_tk, .inr (4, [.int tkd, .int tkp, .int tkr]))]) [2] (by decide) rfl
    refine fr_i (wr := [(a_x, .inr (6, [.ref a_pl, .ref a_lo, .ref a_sh, .long (trc + r24.toInt64)])), (a_pl, .inr (3, [.int days, .ref a_tk, .ref a_rs]))]) (WN := fun (u40 : Unit) => [(a_x, .inr (6, [.ref a_pl, .ref a_lo, .ref a_sh, .long (trc + r24.toInt64)])), (a_pl, .inr (3, [.int days, .ref a_tk, .ref a_rs])), (a_tk, .inr (4, [.int tkd, .int tkp, .int tkr]))]) (va_runU (As := [.int p1]) (rest := []) ⟨hx, hb, hml, hown, hts⟩ (c_X4_rentOf_k1 l dC dI kA a_tk H.size tkd tkp tkr p1 _ h) (va_cwO 1 hts gX6_rent_X4_rentOf_u76X4 rfl rfl rfl (List.mem_cons_of_mem _ (List.mem_append_left _ (List.mem_append_left _ (List.mem_append_left _ (List.mem_append_left _ (List.mem_append_left _ (List.mem_of_getElem? (i := 45) rfl))))))) (by decide +kernel) ⟨Nat.le_of_ble_eq_true rfl, Nat.le_of_ble_eq_true rfl⟩) (prW.preV (ci := 4) (q0 := 0) hPc hDc hK hN rfl rfl) rfl rfl hl.1 rfl (lv_room (Nat.le_of_ble_eq_true rfl)) dX6_rent_40 ⟨Nat.le_of_ble_eq_true rfl, Nat.le_of_ble_eq_true rfl⟩) hP hD hS hA [2] [0, 1] rfl rfl (by decide) (by decide) [0, 1, 2] (by decide) (fun _ => rfl) (fun r40 u40 H locs h hP hD hS => ?_)
    have hP : va_P (dC, dI) vwCl [(a_x, .inr (6, [.ref a_pl, .ref a_lo, .ref a_sh, .long (trc + r24.toInt64)])), (a_pl, .inr (3, [.int days, .ref a_tk, .ref a_rs])), (a_tk, .inr (4, [.int tkd, .int tkp, .int tkr]))] H := hP
    have hD : va_D A [(a_x, .inr (6, [.ref a_pl, .ref a_lo, .ref a_sh, .long (trc + r24.toInt64)])), (a_pl, .inr (3, [.int days, .ref a_tk, .ref a_rs])), (a_tk, .inr (4, [.int tkd, .int tkp, .int tkr]))] := hD
    rw [hQ]
    exact rt_i ((trc + r24.toInt64)) hx hb hr hlocks h hP hD hS dX6_rent_43
  · replace h := h.2 c7
    refine lv_iconst (v := (-1 : Int32)) hx hb dX6_rent_10 (by decide +kernel) ?_
    rw [hQ]
    exact rt_i (trc) hx hb hr hlocks h hP hD hS dX6_rent_11

/-- RentOrBuy.rent, kind 2 -/
def rmX6_rent_k2 : Room := { frames := 3, cells := 0, slots := 0, locals := 63 }
set_option maxHeartbeats 4000000 in
set_option maxRecDepth 100000 in
theorem c_X6_rent_k2 (l : Launch) (dC : Nat → ClassId) (dI : Nat → Nat → Nat) (kA : ClassId) (a_x a_pl a_tk a_lo a_sh a_rs : Nat) (sz : Nat) (trc : Int64) (days : Int32) (tkr : Int32) (tkd : Int32) (tkp : Int32) (tkc : Int32) (p1 : Int32) (K : Int32 → Int64 → Prop) (hg : g_X6_rent_k2 trc days tkr tkd tkp tkc p1 K) : Met l yX6_rent wsX6_rent rmX6_rent_k2 (va_Pc [.ref a_x, .int p1] (prW (dC, dI) kA sz [(a_x, .inr (6, [.ref a_pl, .ref a_lo, .ref a_sh, .long trc])), (a_pl, .inr (3, [.int days, .ref a_tk, .ref a_rs])), (a_tk, .inr (0, [.int tkr, .int tkd, .int tkp, .int tkc]))])) (va_Qi (fun (r : Int32) (u : Int64) => K r u) (poW (dC, dI) (va_A [(a_x, .inr (6, [.ref a_pl, .ref a_lo, .ref a_sh, .long trc])), (a_pl, .inr (3, [.int days, .ref a_tk, .ref a_rs])), (a_tk, .inr (0, [.int tkr, .int tkd, .int tkp, .int tkc]))] sz) (fun (u : Int64) => [(a_x, .inr (6, [.ref a_pl, .ref a_lo, .ref a_sh, .long u])), (a_pl, .inr (3, [.int days, .ref a_tk, .ref a_rs])), (a_tk, .inr (0, [.int tkr, .int tkd, .int tkp, .int tkc]))])) (va_A [(a_x, .inr (6, [.ref a_pl, .ref a_lo, .ref a_sh, .long trc])), (a_pl, .inr (3, [.int days, .ref a_tk, .ref a_rs])), (a_tk, .inr (0, [.int tkr, .int tkd, .int tkp, .int tkc]))] sz)) 0 0 (va_A [(a_x, .inr (6, [.ref a_pl, .ref a_lo, .ref a_sh, .long trc])), (a_pl, .inr (3, [.int days, .ref a_tk, .ref a_rs])), (a_tk, .inr (0, [.int tkr, .int tkd, .int tkp, .int tkc]))] sz) := by
  refine Met.ofW (cc := cX6_rent) (maxL := 2) (ret := (some .int)) (by decide) rfl ?_
  intro p e s m args below meth c s₁ B hml hv
  obtain ⟨hargs, hsz, hP, hK, hD0, hN⟩ := hv
  have hx := B.exec
  have hb := B.bytes
  have hr := B.returns
  have hts := atoms_spec (ws := wsX6_rent) B.pre
  have hown : s.vm.findClass RX6 = some m.cls := findClass_of_methodNamed B.named
  have hlocks := B.notSynchronized
  subst hsz
  have hD := hD0.self (sz := s.heap.size)
  generalize hAe : va_A [(a_x, .inr (6, [.ref a_pl, .ref a_lo, .ref a_sh, .long trc])), (a_pl, .inr (3, [.int days, .ref a_tk, .ref a_rs])), (a_tk, .inr (0, [.int tkr, .int tkd, .int tkp, .int tkc]))] s.heap.size = A at hD ⊢
  have hA : ∀ q : Nat, s.heap.size ≤ q → A q := fun q h => by rw [← hAe]; exact Or.inr h
  have hS : va_S A s.heap s.heap [] := va_S.rf
  obtain ⟨Q, hQ⟩ : ∃ Q : State → Prop, Q = MQ below (va_Qi (fun (r : Int32) (u : Int64) => K r u) (poW (dC, dI) A (fun (u : Int64) => [(a_x, .inr (6, [.ref a_pl, .ref a_lo, .ref a_sh, .long u])), (a_pl, .inr (3, [.int days, .ref a_tk, .ref a_rs])), (a_tk, .inr (0, [.int tkr, .int tkd, .int tkp, .int tkc]))])) A) args s 0 0 A := ⟨_, rfl⟩
  rw [← hQ]
  have hP : va_P (dC, dI) vwCl [(a_x, .inr (6, [.ref a_pl, .ref a_lo, .ref a_sh, .long trc])), (a_pl, .inr (3, [.int days, .ref a_tk, .ref a_rs])), (a_tk, .inr (0, [.int tkr, .int tkd, .int tkp, .int tkc]))] s.heap := hP
  refine en_ok hargs (Nat.le_of_ble_eq_true rfl) (fun ls hl => ?_)
  have hl : lv_has ls 2 [(0, .ref a_x), (1, .int p1)] := hl
  have h := hg
  unfold g_X6_rent_k2 at h
  refine lv_iload_n hx hb dX6_rent_0 rfl (lv_at hl 1 rfl) ?_
  refine lv_iconst (v := (1 : Int32)) hx hb dX6_rent_1 (by decide +kernel) ?_
  refine lv_bipush (v := (40 : Int32)) hx hb dX6_rent_2 (by decide +kernel) ?_
  have hPc := hP.sub (ws' := []) [] rfl
  have hDc := hD.sub (ws' := []) [] (by decide) rfl
  refine fr_i (wr := [(a_x, .inr (6, [.ref a_pl, .ref a_lo, .ref a_sh, .long trc])), (a_pl, .inr (3, [.int days, .ref a_tk, .ref a_rs])), (a_tk, .inr (0, [.int tkr, .int tkd, .int tkp, .int tkc]))]) (WN := fun (u4 : Unit) => [(a_x, .inr (6, [.ref a_pl, .ref a_lo, .ref a_sh, .long trc])), (a_pl, .inr (3, [.int days, .ref a_tk, .ref a_rs])), (a_tk, .inr (0, [.int tkr, .int tkd, .int tkp, .int tkc]))]) (va_runS (As := [.int p1, .int (1 : Int32), .int (40 : Int32)]) (rest := []) ⟨hx, hb, hml, hown, hts⟩ (c_X6_isWithin l dC dI kA s.heap.size p1 (1 : Int32) (40 : Int32) _ h) (va_cwS 3 hts gX6_rent_X6_isWithin rfl rfl rfl (by decide +kernel) ⟨Nat.le_of_ble_eq_true rfl, Nat.le_of_ble_eq_true rfl⟩) (prW.preS hPc hDc hK hN) rfl rfl hl.1 rfl (lv_room (Nat.le_of_ble_eq_true rfl)) dX6_rent_4 ⟨Nat.le_of_ble_eq_true rfl, Nat.le_of_ble_eq_true rfl⟩) hP hD hS hA [] [0, 1, 2] rfl rfl (by decide) (by decide) [0, 1, 2] (by decide) (fun _ => rfl) (fun r4 u4 H locs h hP hD hS => ?_)
  have hP : va_P (dC, dI) vwCl [(a_x, .inr (6, [.ref a_pl, .ref a_lo, .ref a_sh, .long trc])), (a_pl, .inr (3, [.int days, .ref a_tk, .ref a_rs])), (a_tk, .inr (0, [.int tkr, .int tkd, .int tkp, .int tkc]))] H := hP
  have hD : va_D A [(a_x, .inr (6, [.ref a_pl, .ref a_lo, .ref a_sh, .long trc])), (a_pl, .inr (3, [.int days, .ref a_tk, .ref a_rs])), (a_tk, .inr (0, [.int tkr, .int tkd, .int tkp, .int tkc]))] := hD
  refine lv_if_ne (tgt := 12) hx hb dX6_rent_7 (by decide) (fun c7 => ?_) (fun c7 => ?_)
  · replace h := h.1 c7
    refine lv_aload_n hx hb dX6_rent_12 rfl (lv_at hl 0 rfl) ?_
    refine lv_dup hx hb dX6_rent_13 rfl ?_
    refine va_get (D := (dC, dI)) (ci := 6) (v := .long trc) (C := RX6) (T := TX6) (N := 4) hx hb hts (fun _ h => List.mem_cons_of_mem _ (List.mem_append_left _ (List.mem_append_left _ (List.mem_append_left _ (List.mem_append_left _ (List.mem_append_right _ h)))))) hown hK hP 0 rfl rfl 3 (by decide) (hts (.fieldLink RX6 30 "RentOrBuy" "traced" "J") (List.mem_cons_of_mem _ (List.mem_append_left _ (List.mem_append_left _ (List.mem_append_left _ (List.mem_append_left _ (List.mem_append_left _ (List.mem_of_getElem? (i := 0) rfl)))))))) (fun _ h9 => h9) rfl dX6_rent_14 ?_
    refine lv_aload_n hx hb dX6_rent_17 rfl (lv_at hl 0 rfl) ?_
    refine va_get (D := (dC, dI)) (ci := 6) (v := .ref a_pl) (C := RX6) (T := TX6) (N := 4) hx hb hts (fun _ h => List.mem_cons_of_mem _ (List.mem_append_left _ (List.mem_append_left _ (List.mem_append_left _ (List.mem_append_left _ (List.mem_append_right _ h)))))) hown hK hP 0 rfl rfl 0 (by decide) (hts (.fieldLink RX6 10 "RentOrBuy" "plans" "LRentOrBuy$Plans;") (List.mem_cons_of_mem _ (List.mem_append_left _ (List.mem_append_left _ (List.mem_append_left _ (List.mem_append_left _ (List.mem_append_left _ (List.mem_of_getElem? (i := 1) rfl)))))))) (fun _ h9 => h9) rfl dX6_rent_18 ?_
    refine va_getN (D := (dC, dI)) (ci := 3) (v := .ref a_tk) (C := RX3) (T := TX3) (N := 3) hx hb hts (fun _ h => List.mem_cons_of_mem _ (List.mem_append_left _ (List.mem_append_left _ (List.mem_append_left _ (List.mem_append_right _ h))))) hown hK hP 1 rfl rfl 1 (by decide) (hN.f 3 rfl) (fun _ h9 => h9) rfl dX6_rent_21 ?_
    have hPc := hP.sub (ws' := [(a_tk, .inr (0, [.int tkr, .int tkd, .int tkp, .int tkc]))]) [2] rfl
    have hDc := hD.sub (ws' := [(a_tk, .inr (0, [.int tkr, .int tkd, .int tkp, .int tkc]))]) [2] (by decide) rfl
    refine fr_i (wr := [(a_x, .inr (6, [.ref a_pl, .ref a_lo, .ref a_sh, .long trc])), (a_pl, .inr (3, [.int days, .ref a_tk, .ref a_rs]))]) (WN := fun (u24 : Unit) => [(a_x, .inr (6, [.ref a_pl, .ref a_lo, .ref a_sh, .long trc])), (a_pl, .inr (3, [.int days, .ref a_tk, .ref a_rs])), (a_tk, .inr (0, [.int tkr, .int tkd, .int tkp, .int tkc]))]) (va_runU (As := []) (rest := [.long trc, .ref a_x]) ⟨hx, hb, hml, hown, hts⟩ (c_X0_bodiesAsked_k2 l dC dI kA a_tk H.size tkr tkd tkp tkc _ h) (va_cwO 0 hts gX6_rent_X0_bodiesAsked_u72X0 rfl rfl rfl (List.mem_cons_of_mem _ (List.mem_append_left _ (List.mem_append_left _ (List.mem_append_left _ (List.mem_append_left _ (List.mem_append_left _ (List.mem_of_getElem? (i := 23) rfl))))))) (by decide +kernel) ⟨Nat.le_of_ble_eq_true rfl, Nat.le_of_ble_eq_true rfl⟩) (prW.preV (ci := 0) (q0 := 0) hPc hDc hK hN rfl rfl) rfl rfl hl.1 rfl (lv_room (Nat.le_of_ble_eq_true rfl)) dX6_rent_24 ⟨Nat.le_of_ble_eq_true rfl, Nat.le_of_ble_eq_true rfl⟩) hP hD hS hA [2] [0, 1] rfl rfl (by decide) (by decide) [0, 1, 2] (by decide) (fun _ => rfl) (fun r24 u24 H locs h hP hD hS => ?_)
    have hP : va_P (dC, dI) vwCl [(a_x, .inr (6, [.ref a_pl, .ref a_lo, .ref a_sh, .long trc])), (a_pl, .inr (3, [.int days, .ref a_tk, .ref a_rs])), (a_tk, .inr (0, [.int tkr, .int tkd, .int tkp, .int tkc]))] H := hP
    have hD : va_D A [(a_x, .inr (6, [.ref a_pl, .ref a_lo, .ref a_sh, .long trc])), (a_pl, .inr (3, [.int days, .ref a_tk, .ref a_rs])), (a_tk, .inr (0, [.int tkr, .int tkd, .int tkp, .int tkc]))] := hD
    refine lv_i2l hx hb dX6_rent_27 rfl ?_
    refine lv_ladd hx hb dX6_rent_28 ?_
    refine va_put (D := (dC, dI)) (ci := 6) (v := .long (trc + r24.toInt64)) (ty := .long) (C := RX6) (T := TX6) (N := 4) hx hb hts (fun _ h => List.mem_cons_of_mem _ (List.mem_append_left _ (List.mem_append_left _ (List.mem_append_left _ (List.mem_append_left _ (List.mem_append_right _ h)))))) tyX6 tyX6_ok nmX6 hown hK hP hD hS 0 rfl rfl 3 (by decide) (hts (.fieldLink RX6 30 "RentOrBuy" "traced" "J") (List.mem_cons_of_mem _ (List.mem_append_left _ (List.mem_append_left _ (List.mem_append_left _ (List.mem_append_left _ (List.mem_append_left _ (List.mem_of_getElem? (i := 0) rfl)))))))) (fun _ h9 => h9) rfl (by decide +kernel) rfl rfl (Nat.le_of_ble_eq_true rfl) dX6_rent_29 (fun H locs hP hD hS => ?_)
    have hP : va_P (dC, dI) vwCl [(a_x, .inr (6, [.ref a_pl, .ref a_lo, .ref a_sh, .long (trc + r24.toInt64)])), (a_pl, .inr (3, [.int days, .ref a_tk, .ref a_rs])), (a_tk, .inr (0, [.int tkr, .int tkd, .int tkp, .int tkc]))] H := hP
    have hD : va_D A [(a_x, .inr (6, [.ref a_pl, .ref a_lo, .ref a_sh, .long (trc + r24.toInt64)])), (a_pl, .inr (3, [.int days, .ref a_tk, .ref a_rs])), (a_tk, .inr (0, [.int tkr, .int tkd, .int tkp, .int tkc]))] := hD
    refine lv_aload_n hx hb dX6_rent_32 rfl (lv_at hl 0 rfl) ?_
    refine va_get (D := (dC, dI)) (ci := 6) (v := .ref a_pl) (C := RX6) (T := TX6) (N := 4) hx hb hts (fun _ h => List.mem_cons_of_mem _ (List.mem_append_left _ (List.mem_append_left _ (List.mem_append_left _ (List.mem_append_left _ (List.mem_append_right _ h)))))) hown hK hP 0 rfl rfl 0 (by decide) (hts (.fieldLink RX6 10 "RentOrBuy" "plans" "LRentOrBuy$Plans;") (List.mem_cons_of_mem _ (List.mem_append_left _ (List.mem_append_left _ (List.mem_append_left _ (List.mem_append_left _ (List.mem_append_left _ (List.mem_of_getElem? (i := 1) rfl)))))))) (fun _ h9 => h9) rfl dX6_rent_33 ?_
    refine va_getN (D := (dC, dI)) (ci := 3) (v := .ref a_tk) (C := RX3) (T := TX3) (N := 3) hx hb hts (fun _ h => List.mem_cons_of_mem _ (List.mem_append_left _ (List.mem_append_left _ (List.mem_append_left _ (List.mem_append_right _ h))))) hown hK hP 1 rfl rfl 1 (by decide) (hN.f 3 rfl) (fun _ h9 => h9) rfl dX6_rent_36 ?_
    refine lv_iload_n hx hb dX6_rent_39 rfl (lv_at hl 1 rfl) ?_
    have hPc := hP.sub (ws' := [(a_tk, .inr (0, [.int tkr, .int tkd, .int tkp, .int tkc]))]) [2] rfl
    have hDc := hD.sub (ws' := [(a_tk, .inr (0, [.int tkr, .int tkd, .int tkp, .int tkc]))]) [2] (by decide) rfl
    refine fr_i (wr := [(a_x, .inr (6, [.ref a_pl, .ref a_lo, .ref a_sh, .long (trc + r24.toInt64)])), (a_pl, .inr (3, [.int days, .ref a_tk, .ref a_rs]))]) (WN := fun (u40 : Unit) => [(a_x, .inr (6, [.ref a_pl, .ref a_lo, .ref a_sh, .long (trc + r24.toInt64)])), (a_pl, .inr (3, [.int days, .ref a_tk, .ref a_rs])), (a_tk, .inr (0, [.int tkr, .int tkd, .int tkp, .int tkc]))]) (va_runU (As := [.int p1]) (rest := []) ⟨hx, hb, hml, hown, hts⟩ (c_X0_rentOf_k2 l dC dI kA a_tk H.size tkr tkd tkp tkc p1 _ h) (va_cwO 1 hts gX6_rent_X0_rentOf_u76X0 rfl rfl rfl (List.mem_cons_of_mem _ (List.mem_append_left _ (List.mem_append_left _ (List.mem_append_left _ (List.mem_append_left _ (List.mem_append_left _ (List.mem_of_getElem? (i := 45) rfl))))))) (by decide +kernel) ⟨Nat.le_of_ble_eq_true rfl, Nat.le_of_ble_eq_true rfl⟩) (prW.preV (ci := 0) (q0 := 0) hPc hDc hK hN rfl rfl) rfl rfl hl.1 rfl (lv_room (Nat.le_of_ble_eq_true rfl)) dX6_rent_40 ⟨Nat.le_of_ble_eq_true rfl, Nat.le_of_ble_eq_true rfl⟩) hP hD hS hA [2] [0, 1] rfl rfl (by decide) (by decide) [0, 1, 2] (by decide) (fun _ => rfl) (fun r40 u40 H locs h hP hD hS => ?_)
    have hP : va_P (dC, dI) vwCl [(a_x, .inr (6, [.ref a_pl, .ref a_lo, .ref a_sh, .long (trc + r24.toInt64)])), (a_pl, .inr (3, [.int days, .ref a_tk, .ref a_rs])), (a_tk, .inr (0, [.int tkr, .int tkd, .int tkp, .int tkc]))] H := hP
    have hD : va_D A [(a_x, .inr (6, [.ref a_pl, .ref a_lo, .ref a_sh, .long (trc + r24.toInt64)])), (a_pl, .inr (3, [.int days, .ref a_tk, .ref a_rs])), (a_tk, .inr (0, [.int tkr, .int tkd, .int tkp, .int tkc]))] := hD
    rw [hQ]
    exact rt_i ((trc + r24.toInt64)) hx hb hr hlocks h hP hD hS dX6_rent_43
  · replace h := h.2 c7
    refine lv_iconst (v := (-1 : Int32)) hx hb dX6_rent_10 (by decide +kernel) ?_
    rw [hQ]
    exact rt_i (trc) hx hb hr hlocks h hP hD hS dX6_rent_11

/-- RentOrBuy.request -/
def rmX6_request : Room := { frames := 1, cells := 0, slots := 0, locals := 22 }
set_option maxHeartbeats 4000000 in
set_option maxRecDepth 100000 in
theorem c_X6_request (l : Launch) (dC : Nat → ClassId) (dI : Nat → Nat → Nat) (kA : ClassId) (a_x a_sh a_ak a_pl a_lo a_os a_le : Nat) (sz : Nat) (trc : Int64) (thg : Int32) (req : Int32) (ocn : Int32) (akF : Nat → Int32) (p1 : Int32) (K : Int32 → Int32 → (Nat → Int32) → Prop) (hg : g_X6_request trc thg req ocn akF p1 K) : Met l yX6_request wsX6_request rmX6_request (va_Pc [.ref a_x, .int p1] (prW (dC, dI) kA sz [(a_x, .inr (6, [.ref a_pl, .ref a_lo, .ref a_sh, .long trc])), (a_sh, .inr (5, [.int thg, .int req, .ref a_ak, .int ocn, .ref a_os, .ref a_le])), (a_ak, .inl (kA, 16, .inl akF))])) (va_Qi (fun (r : Int32) (u : Int32 × (Nat → Int32)) => K r u.1 u.2) (poW (dC, dI) (va_A [(a_x, .inr (6, [.ref a_pl, .ref a_lo, .ref a_sh, .long trc])), (a_sh, .inr (5, [.int thg, .int req, .ref a_ak, .int ocn, .ref a_os, .ref a_le])), (a_ak, .inl (kA, 16, .inl akF))] sz) (fun (u : Int32 × (Nat → Int32)) => [(a_x, .inr (6, [.ref a_pl, .ref a_lo, .ref a_sh, .long trc])), (a_sh, .inr (5, [.int thg, .int u.1, .ref a_ak, .int ocn, .ref a_os, .ref a_le])), (a_ak, .inl (kA, 16, .inl u.2))])) (va_A [(a_x, .inr (6, [.ref a_pl, .ref a_lo, .ref a_sh, .long trc])), (a_sh, .inr (5, [.int thg, .int req, .ref a_ak, .int ocn, .ref a_os, .ref a_le])), (a_ak, .inl (kA, 16, .inl akF))] sz)) 0 0 (va_A [(a_x, .inr (6, [.ref a_pl, .ref a_lo, .ref a_sh, .long trc])), (a_sh, .inr (5, [.int thg, .int req, .ref a_ak, .int ocn, .ref a_os, .ref a_le])), (a_ak, .inl (kA, 16, .inl akF))] sz) := by
  refine Met.ofW (cc := cX6_request) (maxL := 2) (ret := (some .int)) (by decide) rfl ?_
  intro p e s m args below meth c s₁ B hml hv
  obtain ⟨hargs, hsz, hP, hK, hD0, hN⟩ := hv
  have hx := B.exec
  have hb := B.bytes
  have hr := B.returns
  have hts := atoms_spec (ws := wsX6_request) B.pre
  have hown : s.vm.findClass RX6 = some m.cls := findClass_of_methodNamed B.named
  have hlocks := B.notSynchronized
  subst hsz
  have hD := hD0.self (sz := s.heap.size)
  generalize hAe : va_A [(a_x, .inr (6, [.ref a_pl, .ref a_lo, .ref a_sh, .long trc])), (a_sh, .inr (5, [.int thg, .int req, .ref a_ak, .int ocn, .ref a_os, .ref a_le])), (a_ak, .inl (kA, 16, .inl akF))] s.heap.size = A at hD ⊢
  have hA : ∀ q : Nat, s.heap.size ≤ q → A q := fun q h => by rw [← hAe]; exact Or.inr h
  have hS : va_S A s.heap s.heap [] := va_S.rf
  obtain ⟨Q, hQ⟩ : ∃ Q : State → Prop, Q = MQ below (va_Qi (fun (r : Int32) (u : Int32 × (Nat → Int32)) => K r u.1 u.2) (poW (dC, dI) A (fun (u : Int32 × (Nat → Int32)) => [(a_x, .inr (6, [.ref a_pl, .ref a_lo, .ref a_sh, .long trc])), (a_sh, .inr (5, [.int thg, .int u.1, .ref a_ak, .int ocn, .ref a_os, .ref a_le])), (a_ak, .inl (kA, 16, .inl u.2))])) A) args s 0 0 A := ⟨_, rfl⟩
  rw [← hQ]
  have hP : va_P (dC, dI) vwCl [(a_x, .inr (6, [.ref a_pl, .ref a_lo, .ref a_sh, .long trc])), (a_sh, .inr (5, [.int thg, .int req, .ref a_ak, .int ocn, .ref a_os, .ref a_le])), (a_ak, .inl (kA, 16, .inl akF))] s.heap := hP
  refine en_ok hargs (Nat.le_of_ble_eq_true rfl) (fun ls hl => ?_)
  have hl : lv_has ls 2 [(0, .ref a_x), (1, .int p1)] := hl
  have h := hg
  unfold g_X6_request at h
  refine lv_iload_n hx hb dX6_request_0 rfl (lv_at hl 1 rfl) ?_
  refine lv_iconst (v := (0 : Int32)) hx hb dX6_request_1 (by decide +kernel) ?_
  refine lv_aload_n hx hb dX6_request_2 rfl (lv_at hl 0 rfl) ?_
  refine va_get (D := (dC, dI)) (ci := 6) (v := .ref a_sh) (C := RX6) (T := TX6) (N := 4) hx hb hts (fun _ h => List.mem_cons_of_mem _ (List.mem_append_left _ (List.mem_append_right _ h))) hown hK hP 0 rfl rfl 2 (by decide) (hts (.fieldLink RX6 26 "RentOrBuy" "shelf" "LRentOrBuy$Shelf;") (List.mem_cons_of_mem _ (List.mem_append_left _ (List.mem_append_left _ (List.mem_of_getElem? (i := 0) rfl))))) (fun _ h9 => h9) rfl dX6_request_3 ?_
  refine va_getN (D := (dC, dI)) (ci := 5) (v := .int thg) (C := RX5) (T := TX5) (N := 6) hx hb hts (fun _ h => List.mem_cons_of_mem _ (List.mem_append_right _ h)) hown hK hP 1 rfl rfl 0 (by decide) (hN.f 6 rfl) (fun _ h9 => h9) rfl dX6_request_6 ?_
  refine lv_iconst (v := (1 : Int32)) hx hb dX6_request_9 (by decide +kernel) ?_
  refine lv_isub hx hb dX6_request_10 ?_
  have hPc := hP.sub (ws' := []) [] rfl
  have hDc := hD.sub (ws' := []) [] (by decide) rfl
  refine fr_i (wr := [(a_x, .inr (6, [.ref a_pl, .ref a_lo, .ref a_sh, .long trc])), (a_sh, .inr (5, [.int thg, .int req, .ref a_ak, .int ocn, .ref a_os, .ref a_le])), (a_ak, .inl (kA, 16, .inl akF))]) (WN := fun (u11 : Unit) => [(a_x, .inr (6, [.ref a_pl, .ref a_lo, .ref a_sh, .long trc])), (a_sh, .inr (5, [.int thg, .int req, .ref a_ak, .int ocn, .ref a_os, .ref a_le])), (a_ak, .inl (kA, 16, .inl akF))]) (va_runS (As := [.int p1, .int (0 : Int32), .int (thg - (1 : Int32))]) (rest := []) ⟨hx, hb, hml, hown, hts⟩ (c_X6_isWithin l dC dI kA s.heap.size p1 (0 : Int32) (thg - (1 : Int32)) _ h) (va_cwS 3 hts gX6_request_X6_isWithin rfl rfl rfl (by decide +kernel) ⟨Nat.le_of_ble_eq_true rfl, Nat.le_of_ble_eq_true rfl⟩) (prW.preS hPc hDc hK hN) rfl rfl hl.1 rfl (lv_room (Nat.le_of_ble_eq_true rfl)) dX6_request_11 ⟨Nat.le_of_ble_eq_true rfl, Nat.le_of_ble_eq_true rfl⟩) hP hD hS hA [] [0, 1, 2] rfl rfl (by decide) (by decide) [0, 1, 2] (by decide) (fun _ => rfl) (fun r11 u11 H locs h hP hD hS => ?_)
  have hP : va_P (dC, dI) vwCl [(a_x, .inr (6, [.ref a_pl, .ref a_lo, .ref a_sh, .long trc])), (a_sh, .inr (5, [.int thg, .int req, .ref a_ak, .int ocn, .ref a_os, .ref a_le])), (a_ak, .inl (kA, 16, .inl akF))] H := hP
  have hD : va_D A [(a_x, .inr (6, [.ref a_pl, .ref a_lo, .ref a_sh, .long trc])), (a_sh, .inr (5, [.int thg, .int req, .ref a_ak, .int ocn, .ref a_os, .ref a_le])), (a_ak, .inl (kA, 16, .inl akF))] := hD
  refine lv_if_ne (tgt := 19) hx hb dX6_request_14 (by decide) (fun c14 => ?_) (fun c14 => ?_)
  · replace h := h.1 c14
    refine lv_aload_n hx hb dX6_request_19 rfl (lv_at hl 0 rfl) ?_
    refine va_get (D := (dC, dI)) (ci := 6) (v := .ref a_sh) (C := RX6) (T := TX6) (N := 4) hx hb hts (fun _ h => List.mem_cons_of_mem _ (List.mem_append_left _ (List.mem_append_right _ h))) hown hK hP 0 rfl rfl 2 (by decide) (hts (.fieldLink RX6 26 "RentOrBuy" "shelf" "LRentOrBuy$Shelf;") (List.mem_cons_of_mem _ (List.mem_append_left _ (List.mem_append_left _ (List.mem_of_getElem? (i := 0) rfl))))) (fun _ h9 => h9) rfl dX6_request_20 ?_
    refine va_getN (D := (dC, dI)) (ci := 5) (v := .int req) (C := RX5) (T := TX5) (N := 6) hx hb hts (fun _ h => List.mem_cons_of_mem _ (List.mem_append_right _ h)) hown hK hP 1 rfl rfl 1 (by decide) (hN.f 7 rfl) (fun _ h9 => h9) rfl dX6_request_23 ?_
    refine lv_bipush (v := (16 : Int32)) hx hb dX6_request_26 (by decide +kernel) ?_
    refine lv_icmp_lt (tgt := 34) hx hb dX6_request_28 (by decide) (fun c28 => ?_) (fun c28 => ?_)
    · replace h := h.1 c28
      refine lv_aload_n hx hb dX6_request_34 rfl (lv_at hl 0 rfl) ?_
      refine va_get (D := (dC, dI)) (ci := 6) (v := .ref a_sh) (C := RX6) (T := TX6) (N := 4) hx hb hts (fun _ h => List.mem_cons_of_mem _ (List.mem_append_left _ (List.mem_append_right _ h))) hown hK hP 0 rfl rfl 2 (by decide) (hts (.fieldLink RX6 26 "RentOrBuy" "shelf" "LRentOrBuy$Shelf;") (List.mem_cons_of_mem _ (List.mem_append_left _ (List.mem_append_left _ (List.mem_of_getElem? (i := 0) rfl))))) (fun _ h9 => h9) rfl dX6_request_35 ?_
      refine va_getN (D := (dC, dI)) (ci := 5) (v := .ref a_ak) (C := RX5) (T := TX5) (N := 6) hx hb hts (fun _ h => List.mem_cons_of_mem _ (List.mem_append_right _ h)) hown hK hP 1 rfl rfl 2 (by decide) (hN.f 8 rfl) (fun _ h9 => h9) rfl dX6_request_38 ?_
      refine lv_aload_n hx hb dX6_request_41 rfl (lv_at hl 0 rfl) ?_
      refine va_get (D := (dC, dI)) (ci := 6) (v := .ref a_sh) (C := RX6) (T := TX6) (N := 4) hx hb hts (fun _ h => List.mem_cons_of_mem _ (List.mem_append_left _ (List.mem_append_right _ h))) hown hK hP 0 rfl rfl 2 (by decide) (hts (.fieldLink RX6 26 "RentOrBuy" "shelf" "LRentOrBuy$Shelf;") (List.mem_cons_of_mem _ (List.mem_append_left _ (List.mem_append_left _ (List.mem_of_getElem? (i := 0) rfl))))) (fun _ h9 => h9) rfl dX6_request_42 ?_
      refine va_getN (D := (dC, dI)) (ci := 5) (v := .int req) (C := RX5) (T := TX5) (N := 6) hx hb hts (fun _ h => List.mem_cons_of_mem _ (List.mem_append_right _ h)) hown hK hP 1 rfl rfl 1 (by decide) (hN.f 7 rfl) (fun _ h9 => h9) rfl dX6_request_45 ?_
      refine lv_iload_n hx hb dX6_request_48 rfl (lv_at hl 1 rfl) ?_
      obtain ⟨hi49, h⟩ := h
      refine va_iast hx hb hK hP hD hS 2 0 rfl rfl hi49 dX6_request_49 (fun H locs hP hD hS => ?_)
      have hP : va_P (dC, dI) vwCl [(a_x, .inr (6, [.ref a_pl, .ref a_lo, .ref a_sh, .long trc])), (a_sh, .inr (5, [.int thg, .int req, .ref a_ak, .int ocn, .ref a_os, .ref a_le])), (a_ak, .inl (kA, 16, .inl (upd akF req.toNatClampNeg p1)))] H := hP
      have hD : va_D A [(a_x, .inr (6, [.ref a_pl, .ref a_lo, .ref a_sh, .long trc])), (a_sh, .inr (5, [.int thg, .int req, .ref a_ak, .int ocn, .ref a_os, .ref a_le])), (a_ak, .inl (kA, 16, .inl (upd akF req.toNatClampNeg p1)))] := hD
      refine lv_aload_n hx hb dX6_request_50 rfl (lv_at hl 0 rfl) ?_
      refine va_get (D := (dC, dI)) (ci := 6) (v := .ref a_sh) (C := RX6) (T := TX6) (N := 4) hx hb hts (fun _ h => List.mem_cons_of_mem _ (List.mem_append_left _ (List.mem_append_right _ h))) hown hK hP 0 rfl rfl 2 (by decide) (hts (.fieldLink RX6 26 "RentOrBuy" "shelf" "LRentOrBuy$Shelf;") (List.mem_cons_of_mem _ (List.mem_append_left _ (List.mem_append_left _ (List.mem_of_getElem? (i := 0) rfl))))) (fun _ h9 => h9) rfl dX6_request_51 ?_
      refine lv_dup hx hb dX6_request_54 rfl ?_
      refine va_getN (D := (dC, dI)) (ci := 5) (v := .int req) (C := RX5) (T := TX5) (N := 6) hx hb hts (fun _ h => List.mem_cons_of_mem _ (List.mem_append_right _ h)) hown hK hP 1 rfl rfl 1 (by decide) (hN.f 7 rfl) (fun _ h9 => h9) rfl dX6_request_55 ?_
      refine lv_iconst (v := (1 : Int32)) hx hb dX6_request_58 (by decide +kernel) ?_
      refine lv_iadd hx hb dX6_request_59 ?_
      refine va_putN (D := (dC, dI)) (ci := 5) (v := .int (req + (1 : Int32))) (ty := .int) (C := RX5) (T := TX5) (N := 6) hx hb hts (fun _ h => List.mem_cons_of_mem _ (List.mem_append_right _ h)) tyX5 tyX5_ok nmX5 hown hK hP hD hS 1 rfl rfl 1 (by decide) (hN.f 7 rfl) (fun _ h9 => h9) rfl (by decide +kernel) rfl rfl (Nat.le_of_ble_eq_true rfl) dX6_request_60 (fun H locs hP hD hS => ?_)
      have hP : va_P (dC, dI) vwCl [(a_x, .inr (6, [.ref a_pl, .ref a_lo, .ref a_sh, .long trc])), (a_sh, .inr (5, [.int thg, .int (req + (1 : Int32)), .ref a_ak, .int ocn, .ref a_os, .ref a_le])), (a_ak, .inl (kA, 16, .inl (upd akF req.toNatClampNeg p1)))] H := hP
      have hD : va_D A [(a_x, .inr (6, [.ref a_pl, .ref a_lo, .ref a_sh, .long trc])), (a_sh, .inr (5, [.int thg, .int (req + (1 : Int32)), .ref a_ak, .int ocn, .ref a_os, .ref a_le])), (a_ak, .inl (kA, 16, .inl (upd akF req.toNatClampNeg p1)))] := hD
      refine lv_aload_n hx hb dX6_request_63 rfl (lv_at hl 0 rfl) ?_
      refine va_get (D := (dC, dI)) (ci := 6) (v := .ref a_sh) (C := RX6) (T := TX6) (N := 4) hx hb hts (fun _ h => List.mem_cons_of_mem _ (List.mem_append_left _ (List.mem_append_right _ h))) hown hK hP 0 rfl rfl 2 (by decide) (hts (.fieldLink RX6 26 "RentOrBuy" "shelf" "LRentOrBuy$Shelf;") (List.mem_cons_of_mem _ (List.mem_append_left _ (List.mem_append_left _ (List.mem_of_getElem? (i := 0) rfl))))) (fun _ h9 => h9) rfl dX6_request_64 ?_
      refine va_getN (D := (dC, dI)) (ci := 5) (v := .int (req + (1 : Int32))) (C := RX5) (T := TX5) (N := 6) hx hb hts (fun _ h => List.mem_cons_of_mem _ (List.mem_append_right _ h)) hown hK hP 1 rfl rfl 1 (by decide) (hN.f 7 rfl) (fun _ h9 => h9) rfl dX6_request_67 ?_
      rw [hQ]
      exact rt_i ((req + (1 : Int32)), (upd akF req.toNatClampNeg p1)) hx hb hr hlocks h hP hD hS dX6_request_70
    · replace h := h.2 c28
      refine lv_bipush (v := (-3 : Int32)) hx hb dX6_request_31 (by decide +kernel) ?_
      rw [hQ]
      exact rt_i (req, akF) hx hb hr hlocks h hP hD hS dX6_request_33
  · replace h := h.2 c14
    refine lv_iconst (v := (-1 : Int32)) hx hb dX6_request_17 (by decide +kernel) ?_
    rw [hQ]
    exact rt_i (req, akF) hx hb hr hlocks h hP hD hS dX6_request_18

/-- RentOrBuy.serve -/
def rmX6_serve : Room := { frames := 5, cells := 0, slots := 0, locals := 112 }
set_option maxHeartbeats 4000000 in
set_option maxRecDepth 100000 in
theorem c_X6_serve (l : Launch) (dC : Nat → ClassId) (dI : Nat → Nat → Nat) (kA : ClassId) (a_x a_sh a_ak a_os a_le a_pl a_lo : Nat) (sz : Nat) (trc : Int64) (thg : Int32) (req : Int32) (ocn : Int32) (akF : Nat → Int32) (osF : Nat → Int32) (leF : Nat → Int32) (p1 : Int32) (K : Int32 → (Nat → Int32) → Prop) (hg : g_X6_serve trc thg req ocn akF osF leF p1 K) : Met l yX6_serve wsX6_serve rmX6_serve (va_Pc [.ref a_x, .int p1] (prW (dC, dI) kA sz [(a_x, .inr (6, [.ref a_pl, .ref a_lo, .ref a_sh, .long trc])), (a_sh, .inr (5, [.int thg, .int req, .ref a_ak, .int ocn, .ref a_os, .ref a_le])), (a_ak, .inl (kA, 16, .inl akF)), (a_os, .inl (kA, 24, .inl osF)), (a_le, .inl (kA, 256, .inl leF))])) (va_Qi (fun (r : Int32) (u : (Nat → Int32)) => K r u) (poW (dC, dI) (va_A [(a_x, .inr (6, [.ref a_pl, .ref a_lo, .ref a_sh, .long trc])), (a_sh, .inr (5, [.int thg, .int req, .ref a_ak, .int ocn, .ref a_os, .ref a_le])), (a_ak, .inl (kA, 16, .inl akF)), (a_os, .inl (kA, 24, .inl osF)), (a_le, .inl (kA, 256, .inl leF))] sz) (fun (u : (Nat → Int32)) => [(a_x, .inr (6, [.ref a_pl, .ref a_lo, .ref a_sh, .long trc])), (a_sh, .inr (5, [.int thg, .int req, .ref a_ak, .int ocn, .ref a_os, .ref a_le])), (a_ak, .inl (kA, 16, .inl akF)), (a_os, .inl (kA, 24, .inl osF)), (a_le, .inl (kA, 256, .inl u))])) (va_A [(a_x, .inr (6, [.ref a_pl, .ref a_lo, .ref a_sh, .long trc])), (a_sh, .inr (5, [.int thg, .int req, .ref a_ak, .int ocn, .ref a_os, .ref a_le])), (a_ak, .inl (kA, 16, .inl akF)), (a_os, .inl (kA, 24, .inl osF)), (a_le, .inl (kA, 256, .inl leF))] sz)) 0 0 (va_A [(a_x, .inr (6, [.ref a_pl, .ref a_lo, .ref a_sh, .long trc])), (a_sh, .inr (5, [.int thg, .int req, .ref a_ak, .int ocn, .ref a_os, .ref a_le])), (a_ak, .inl (kA, 16, .inl akF)), (a_os, .inl (kA, 24, .inl osF)), (a_le, .inl (kA, 256, .inl leF))] sz) := by
  refine Met.ofW (cc := cX6_serve) (maxL := 2) (ret := (some .int)) (by decide) rfl ?_
  intro p e s m args below meth c s₁ B hml hv
  obtain ⟨hargs, hsz, hP, hK, hD0, hN⟩ := hv
  have hx := B.exec
  have hb := B.bytes
  have hr := B.returns
  have hts := atoms_spec (ws := wsX6_serve) B.pre
  have hown : s.vm.findClass RX6 = some m.cls := findClass_of_methodNamed B.named
  have hlocks := B.notSynchronized
  subst hsz
  have hD := hD0.self (sz := s.heap.size)
  generalize hAe : va_A [(a_x, .inr (6, [.ref a_pl, .ref a_lo, .ref a_sh, .long trc])), (a_sh, .inr (5, [.int thg, .int req, .ref a_ak, .int ocn, .ref a_os, .ref a_le])), (a_ak, .inl (kA, 16, .inl akF)), (a_os, .inl (kA, 24, .inl osF)), (a_le, .inl (kA, 256, .inl leF))] s.heap.size = A at hD ⊢
  have hA : ∀ q : Nat, s.heap.size ≤ q → A q := fun q h => by rw [← hAe]; exact Or.inr h
  have hS : va_S A s.heap s.heap [] := va_S.rf
  obtain ⟨Q, hQ⟩ : ∃ Q : State → Prop, Q = MQ below (va_Qi (fun (r : Int32) (u : (Nat → Int32)) => K r u) (poW (dC, dI) A (fun (u : (Nat → Int32)) => [(a_x, .inr (6, [.ref a_pl, .ref a_lo, .ref a_sh, .long trc])), (a_sh, .inr (5, [.int thg, .int req, .ref a_ak, .int ocn, .ref a_os, .ref a_le])), (a_ak, .inl (kA, 16, .inl akF)), (a_os, .inl (kA, 24, .inl osF)), (a_le, .inl (kA, 256, .inl u))])) A) args s 0 0 A := ⟨_, rfl⟩
  rw [← hQ]
  have hP : va_P (dC, dI) vwCl [(a_x, .inr (6, [.ref a_pl, .ref a_lo, .ref a_sh, .long trc])), (a_sh, .inr (5, [.int thg, .int req, .ref a_ak, .int ocn, .ref a_os, .ref a_le])), (a_ak, .inl (kA, 16, .inl akF)), (a_os, .inl (kA, 24, .inl osF)), (a_le, .inl (kA, 256, .inl leF))] s.heap := hP
  refine en_ok hargs (Nat.le_of_ble_eq_true rfl) (fun ls hl => ?_)
  have hl : lv_has ls 2 [(0, .ref a_x), (1, .int p1)] := hl
  have h := hg
  unfold g_X6_serve at h
  refine lv_iload_n hx hb dX6_serve_0 rfl (lv_at hl 1 rfl) ?_
  by_cases c1_0 : p1 = 0
  · replace h := h.1 c1_0
    refine lv_tableIn (tgt := 32) hx hb dX6_serve_1 (by rw [c1_0]; decide) (by rw [c1_0]; decide) (by rw [c1_0]; rfl) (by decide) ?_
    refine lv_aload_n hx hb dX6_serve_32 rfl (lv_at hl 0 rfl) ?_
    refine va_get (D := (dC, dI)) (ci := 6) (v := .ref a_sh) (C := RX6) (T := TX6) (N := 4) hx hb hts (fun _ h => List.mem_cons_of_mem _ (List.mem_append_left _ (List.mem_append_right _ h))) hown hK hP 0 rfl rfl 2 (by decide) (hts (.fieldLink RX6 26 "RentOrBuy" "shelf" "LRentOrBuy$Shelf;") (List.mem_cons_of_mem _ (List.mem_append_left _ (List.mem_append_left _ (List.mem_of_getElem? (i := 0) rfl))))) (fun _ h9 => h9) rfl dX6_serve_33 ?_
    have hPc := hP.sub (ws' := [(a_sh, .inr (5, [.int thg, .int req, .ref a_ak, .int ocn, .ref a_os, .ref a_le])), (a_ak, .inl (kA, 16, .inl akF))]) [1, 2] rfl
    have hDc := hD.sub (ws' := [(a_sh, .inr (5, [.int thg, .int req, .ref a_ak, .int ocn, .ref a_os, .ref a_le])), (a_ak, .inl (kA, 16, .inl akF))]) [1, 2] (by decide) rfl
    refine fr_i (wr := [(a_x, .inr (6, [.ref a_pl, .ref a_lo, .ref a_sh, .long trc])), (a_os, .inl (kA, 24, .inl osF)), (a_le, .inl (kA, 256, .inl leF))]) (WN := fun (u36 : Unit) => [(a_x, .inr (6, [.ref a_pl, .ref a_lo, .ref a_sh, .long trc])), (a_sh, .inr (5, [.int thg, .int req, .ref a_ak, .int ocn, .ref a_os, .ref a_le])), (a_ak, .inl (kA, 16, .inl akF)), (a_os, .inl (kA, 24, .inl osF)), (a_le, .inl (kA, 256, .inl leF))]) (va_runV (As := []) (rest := []) ⟨hx, hb, hml, hown, hts⟩ (c_X5_frontCost l dC dI kA a_sh a_ak a_os a_le s.heap.size thg req ocn akF _ h) (cwV 0 hts gX6_serve_X5_frontCost rfl rfl rfl (by decide +kernel) ⟨Nat.le_of_ble_eq_true rfl, Nat.le_of_ble_eq_true rfl⟩) (prW.preV (ci := 5) (q0 := 0) hPc hDc hK hN rfl rfl) rfl rfl hl.1 rfl (lv_room (Nat.le_of_ble_eq_true rfl)) dX6_serve_36 ⟨Nat.le_of_ble_eq_true rfl, Nat.le_of_ble_eq_true rfl⟩) hP hD hS hA [1, 2] [0, 3, 4] rfl rfl (by decide) (by decide) [0, 3, 4, 1, 2] (by decide) (fun _ => rfl) (fun r36 u36 H locs h hP hD hS => ?_)
    have hP : va_P (dC, dI) vwCl [(a_x, .inr (6, [.ref a_pl, .ref a_lo, .ref a_sh, .long trc])), (a_sh, .inr (5, [.int thg, .int req, .ref a_ak, .int ocn, .ref a_os, .ref a_le])), (a_ak, .inl (kA, 16, .inl akF)), (a_os, .inl (kA, 24, .inl osF)), (a_le, .inl (kA, 256, .inl leF))] H := hP
    have hD : va_D A [(a_x, .inr (6, [.ref a_pl, .ref a_lo, .ref a_sh, .long trc])), (a_sh, .inr (5, [.int thg, .int req, .ref a_ak, .int ocn, .ref a_os, .ref a_le])), (a_ak, .inl (kA, 16, .inl akF)), (a_os, .inl (kA, 24, .inl osF)), (a_le, .inl (kA, 256, .inl leF))] := hD
    rw [hQ]
    exact rt_i (leF) hx hb hr hlocks h hP hD hS dX6_serve_39
  · replace h := h.2 c1_0
    by_cases c1_1 : p1 = 1
    · replace h := h.1 c1_1
      refine lv_tableIn (tgt := 40) hx hb dX6_serve_1 (by rw [c1_1]; decide) (by rw [c1_1]; decide) (by rw [c1_1]; rfl) (by decide) ?_
      refine lv_aload_n hx hb dX6_serve_40 rfl (lv_at hl 0 rfl) ?_
      refine va_get (D := (dC, dI)) (ci := 6) (v := .ref a_sh) (C := RX6) (T := TX6) (N := 4) hx hb hts (fun _ h => List.mem_cons_of_mem _ (List.mem_append_left _ (List.mem_append_right _ h))) hown hK hP 0 rfl rfl 2 (by decide) (hts (.fieldLink RX6 26 "RentOrBuy" "shelf" "LRentOrBuy$Shelf;") (List.mem_cons_of_mem _ (List.mem_append_left _ (List.mem_append_left _ (List.mem_of_getElem? (i := 0) rfl))))) (fun _ h9 => h9) rfl dX6_serve_41 ?_
      refine lv_aload_n hx hb dX6_serve_44 rfl (lv_at hl 0 rfl) ?_
      refine va_get (D := (dC, dI)) (ci := 6) (v := .ref a_sh) (C := RX6) (T := TX6) (N := 4) hx hb hts (fun _ h => List.mem_cons_of_mem _ (List.mem_append_left _ (List.mem_append_right _ h))) hown hK hP 0 rfl rfl 2 (by decide) (hts (.fieldLink RX6 26 "RentOrBuy" "shelf" "LRentOrBuy$Shelf;") (List.mem_cons_of_mem _ (List.mem_append_left _ (List.mem_append_left _ (List.mem_of_getElem? (i := 0) rfl))))) (fun _ h9 => h9) rfl dX6_serve_45 ?_
      have hPc := hP.sub (ws' := [(a_sh, .inr (5, [.int thg, .int req, .ref a_ak, .int ocn, .ref a_os, .ref a_le]))]) [1] rfl
      have hDc := hD.sub (ws' := [(a_sh, .inr (5, [.int thg, .int req, .ref a_ak, .int ocn, .ref a_os, .ref a_le]))]) [1] (by decide) rfl
      refine fr_i (wr := [(a_x, .inr (6, [.ref a_pl, .ref a_lo, .ref a_sh, .long trc])), (a_ak, .inl (kA, 16, .inl akF)), (a_os, .inl (kA, 24, .inl osF)), (a_le, .inl (kA, 256, .inl leF))]) (WN := fun (u48 : Unit) => [(a_x, .inr (6, [.ref a_pl, .ref a_lo, .ref a_sh, .long trc])), (a_sh, .inr (5, [.int thg, .int req, .ref a_ak, .int ocn, .ref a_os, .ref a_le])), (a_ak, .inl (kA, 16, .inl akF)), (a_os, .inl (kA, 24, .inl osF)), (a_le, .inl (kA, 256, .inl leF))]) (va_runV (As := []) (rest := [.ref a_sh]) ⟨hx, hb, hml, hown, hts⟩ (c_X5_firstOrder l dC dI kA a_sh a_ak a_os a_le s.heap.size thg req ocn _ h) (cwV 0 hts gX6_serve_X5_firstOrder rfl rfl rfl (by decide +kernel) ⟨Nat.le_of_ble_eq_true rfl, Nat.le_of_ble_eq_true rfl⟩) (prW.preV (ci := 5) (q0 := 0) hPc hDc hK hN rfl rfl) rfl rfl hl.1 rfl (lv_room (Nat.le_of_ble_eq_true rfl)) dX6_serve_48 ⟨Nat.le_of_ble_eq_true rfl, Nat.le_of_ble_eq_true rfl⟩) hP hD hS hA [1] [0, 2, 3, 4] rfl rfl (by decide) (by decide) [0, 4, 1, 2, 3] (by decide) (fun _ => rfl) (fun r48 u48 H locs h hP hD hS => ?_)
      have hP : va_P (dC, dI) vwCl [(a_x, .inr (6, [.ref a_pl, .ref a_lo, .ref a_sh, .long trc])), (a_sh, .inr (5, [.int thg, .int req, .ref a_ak, .int ocn, .ref a_os, .ref a_le])), (a_ak, .inl (kA, 16, .inl akF)), (a_os, .inl (kA, 24, .inl osF)), (a_le, .inl (kA, 256, .inl leF))] H := hP
      have hD : va_D A [(a_x, .inr (6, [.ref a_pl, .ref a_lo, .ref a_sh, .long trc])), (a_sh, .inr (5, [.int thg, .int req, .ref a_ak, .int ocn, .ref a_os, .ref a_le])), (a_ak, .inl (kA, 16, .inl akF)), (a_os, .inl (kA, 24, .inl osF)), (a_le, .inl (kA, 256, .inl leF))] := hD
      have hPc := hP.sub (ws' := [(a_sh, .inr (5, [.int thg, .int req, .ref a_ak, .int ocn, .ref a_os, .ref a_le])), (a_ak, .inl (kA, 16, .inl akF))]) [1, 2] rfl
      have hDc := hD.sub (ws' := [(a_sh, .inr (5, [.int thg, .int req, .ref a_ak, .int ocn, .ref a_os, .ref a_le])), (a_ak, .inl (kA, 16, .inl akF))]) [1, 2] (by decide) rfl
      refine fr_i (wr := [(a_x, .inr (6, [.ref a_pl, .ref a_lo, .ref a_sh, .long trc])), (a_os, .inl (kA, 24, .inl osF)), (a_le, .inl (kA, 256, .inl leF))]) (WN := fun (u51 : Unit) => [(a_x, .inr (6, [.ref a_pl, .ref a_lo, .ref a_sh, .long trc])), (a_sh, .inr (5, [.int thg, .int req, .ref a_ak, .int ocn, .ref a_os, .ref a_le])), (a_ak, .inl (kA, 16, .inl akF)), (a_os, .inl (kA, 24, .inl osF)), (a_le, .inl (kA, 256, .inl leF))]) (va_runV (As := [.int r48]) (rest := []) ⟨hx, hb, hml, hown, hts⟩ (c_X5_stayCost l dC dI kA a_sh a_ak a_os a_le H.size thg req ocn akF r48 _ h) (cwV 1 hts gX6_serve_X5_stayCost rfl rfl rfl (by decide +kernel) ⟨Nat.le_of_ble_eq_true rfl, Nat.le_of_ble_eq_true rfl⟩) (prW.preV (ci := 5) (q0 := 0) hPc hDc hK hN rfl rfl) rfl rfl hl.1 rfl (lv_room (Nat.le_of_ble_eq_true rfl)) dX6_serve_51 ⟨Nat.le_of_ble_eq_true rfl, Nat.le_of_ble_eq_true rfl⟩) hP hD hS hA [1, 2] [0, 3, 4] rfl rfl (by decide) (by decide) [0, 3, 4, 1, 2] (by decide) (fun _ => rfl) (fun r51 u51 H locs h hP hD hS => ?_)
      have hP : va_P (dC, dI) vwCl [(a_x, .inr (6, [.ref a_pl, .ref a_lo, .ref a_sh, .long trc])), (a_sh, .inr (5, [.int thg, .int req, .ref a_ak, .int ocn, .ref a_os, .ref a_le])), (a_ak, .inl (kA, 16, .inl akF)), (a_os, .inl (kA, 24, .inl osF)), (a_le, .inl (kA, 256, .inl leF))] H := hP
      have hD : va_D A [(a_x, .inr (6, [.ref a_pl, .ref a_lo, .ref a_sh, .long trc])), (a_sh, .inr (5, [.int thg, .int req, .ref a_ak, .int ocn, .ref a_os, .ref a_le])), (a_ak, .inl (kA, 16, .inl akF)), (a_os, .inl (kA, 24, .inl osF)), (a_le, .inl (kA, 256, .inl leF))] := hD
      rw [hQ]
      exact rt_i (leF) hx hb hr hlocks h hP hD hS dX6_serve_54
    · replace h := h.2 c1_1
      by_cases c1_2 : p1 = 2
      · replace h := h.1 c1_2
        refine lv_tableIn (tgt := 55) hx hb dX6_serve_1 (by rw [c1_2]; decide) (by rw [c1_2]; decide) (by rw [c1_2]; rfl) (by decide) ?_
        refine lv_aload_n hx hb dX6_serve_55 rfl (lv_at hl 0 rfl) ?_
        refine va_get (D := (dC, dI)) (ci := 6) (v := .ref a_sh) (C := RX6) (T := TX6) (N := 4) hx hb hts (fun _ h => List.mem_cons_of_mem _ (List.mem_append_left _ (List.mem_append_right _ h))) hown hK hP 0 rfl rfl 2 (by decide) (hts (.fieldLink RX6 26 "RentOrBuy" "shelf" "LRentOrBuy$Shelf;") (List.mem_cons_of_mem _ (List.mem_append_left _ (List.mem_append_left _ (List.mem_of_getElem? (i := 0) rfl))))) (fun _ h9 => h9) rfl dX6_serve_56 ?_
        have hPc := hP.sub (ws' := [(a_sh, .inr (5, [.int thg, .int req, .ref a_ak, .int ocn, .ref a_os, .ref a_le])), (a_ak, .inl (kA, 16, .inl akF)), (a_os, .inl (kA, 24, .inl osF))]) [1, 2, 3] rfl
        have hDc := hD.sub (ws' := [(a_sh, .inr (5, [.int thg, .int req, .ref a_ak, .int ocn, .ref a_os, .ref a_le])), (a_ak, .inl (kA, 16, .inl akF)), (a_os, .inl (kA, 24, .inl osF))]) [1, 2, 3] (by decide) rfl
        refine fr_i (wr := [(a_x, .inr (6, [.ref a_pl, .ref a_lo, .ref a_sh, .long trc])), (a_le, .inl (kA, 256, .inl leF))]) (WN := fun (u59 : Unit) => [(a_x, .inr (6, [.ref a_pl, .ref a_lo, .ref a_sh, .long trc])), (a_sh, .inr (5, [.int thg, .int req, .ref a_ak, .int ocn, .ref a_os, .ref a_le])), (a_ak, .inl (kA, 16, .inl akF)), (a_os, .inl (kA, 24, .inl osF)), (a_le, .inl (kA, 256, .inl leF))]) (va_runV (As := []) (rest := []) ⟨hx, hb, hml, hown, hts⟩ (c_X5_bestStayCost l dC dI kA a_sh a_ak a_os a_le s.heap.size thg req ocn akF osF _ h) (cwV 0 hts gX6_serve_X5_bestStayCost rfl rfl rfl (by decide +kernel) ⟨Nat.le_of_ble_eq_true rfl, Nat.le_of_ble_eq_true rfl⟩) (prW.preV (ci := 5) (q0 := 0) hPc hDc hK hN rfl rfl) rfl rfl hl.1 rfl (lv_room (Nat.le_of_ble_eq_true rfl)) dX6_serve_59 ⟨Nat.le_of_ble_eq_true rfl, Nat.le_of_ble_eq_true rfl⟩) hP hD hS hA [1, 2, 3] [0, 4] rfl rfl (by decide) (by decide) [0, 2, 3, 4, 1] (by decide) (fun _ => rfl) (fun r59 u59 H locs h hP hD hS => ?_)
        have hP : va_P (dC, dI) vwCl [(a_x, .inr (6, [.ref a_pl, .ref a_lo, .ref a_sh, .long trc])), (a_sh, .inr (5, [.int thg, .int req, .ref a_ak, .int ocn, .ref a_os, .ref a_le])), (a_ak, .inl (kA, 16, .inl akF)), (a_os, .inl (kA, 24, .inl osF)), (a_le, .inl (kA, 256, .inl leF))] H := hP
        have hD : va_D A [(a_x, .inr (6, [.ref a_pl, .ref a_lo, .ref a_sh, .long trc])), (a_sh, .inr (5, [.int thg, .int req, .ref a_ak, .int ocn, .ref a_os, .ref a_le])), (a_ak, .inl (kA, 16, .inl akF)), (a_os, .inl (kA, 24, .inl osF)), (a_le, .inl (kA, 256, .inl leF))] := hD
        rw [hQ]
        exact rt_i (leF) hx hb hr hlocks h hP hD hS dX6_serve_62
      · replace h := h.2 c1_2
        by_cases c1_3 : p1 = 3
        · replace h := h.1 c1_3
          refine lv_tableIn (tgt := 63) hx hb dX6_serve_1 (by rw [c1_3]; decide) (by rw [c1_3]; decide) (by rw [c1_3]; rfl) (by decide) ?_
          refine lv_aload_n hx hb dX6_serve_63 rfl (lv_at hl 0 rfl) ?_
          refine va_get (D := (dC, dI)) (ci := 6) (v := .ref a_sh) (C := RX6) (T := TX6) (N := 4) hx hb hts (fun _ h => List.mem_cons_of_mem _ (List.mem_append_left _ (List.mem_append_right _ h))) hown hK hP 0 rfl rfl 2 (by decide) (hts (.fieldLink RX6 26 "RentOrBuy" "shelf" "LRentOrBuy$Shelf;") (List.mem_cons_of_mem _ (List.mem_append_left _ (List.mem_append_left _ (List.mem_of_getElem? (i := 0) rfl))))) (fun _ h9 => h9) rfl dX6_serve_64 ?_
          have hPc := hP.sub (ws' := [(a_sh, .inr (5, [.int thg, .int req, .ref a_ak, .int ocn, .ref a_os, .ref a_le])), (a_ak, .inl (kA, 16, .inl akF)), (a_os, .inl (kA, 24, .inl osF)), (a_le, .inl (kA, 256, .inl leF))]) [1, 2, 3, 4] rfl
          have hDc := hD.sub (ws' := [(a_sh, .inr (5, [.int thg, .int req, .ref a_ak, .int ocn, .ref a_os, .ref a_le])), (a_ak, .inl (kA, 16, .inl akF)), (a_os, .inl (kA, 24, .inl osF)), (a_le, .inl (kA, 256, .inl leF))]) [1, 2, 3, 4] (by decide) rfl
          refine fr_i (wr := [(a_x, .inr (6, [.ref a_pl, .ref a_lo, .ref a_sh, .long trc]))]) (WN := fun (u67 : (Nat → Int32)) => [(a_x, .inr (6, [.ref a_pl, .ref a_lo, .ref a_sh, .long trc])), (a_sh, .inr (5, [.int thg, .int req, .ref a_ak, .int ocn, .ref a_os, .ref a_le])), (a_ak, .inl (kA, 16, .inl akF)), (a_os, .inl (kA, 24, .inl osF)), (a_le, .inl (kA, 256, .inl u67))]) (va_runV (As := []) (rest := []) ⟨hx, hb, hml, hown, hts⟩ (c_X5_bestCost l dC dI kA a_sh a_ak a_os a_le s.heap.size thg req ocn akF osF leF _ h) (cwV 0 hts gX6_serve_X5_bestCost rfl rfl rfl (by decide +kernel) ⟨Nat.le_of_ble_eq_true rfl, Nat.le_of_ble_eq_true rfl⟩) (prW.preV (ci := 5) (q0 := 0) hPc hDc hK hN rfl rfl) rfl rfl hl.1 rfl (lv_room (Nat.le_of_ble_eq_true rfl)) dX6_serve_67 ⟨Nat.le_of_ble_eq_true rfl, Nat.le_of_ble_eq_true rfl⟩) hP hD hS hA [1, 2, 3, 4] [0] rfl rfl (by decide) (by decide) [0, 1, 2, 3, 4] (by decide) (fun _ => rfl) (fun r67 u67 H locs h hP hD hS => ?_)
          obtain ⟨y67_leF', rfl⟩ : ∃ z, z = u67 := ⟨_, rfl⟩
          have hP : va_P (dC, dI) vwCl [(a_x, .inr (6, [.ref a_pl, .ref a_lo, .ref a_sh, .long trc])), (a_sh, .inr (5, [.int thg, .int req, .ref a_ak, .int ocn, .ref a_os, .ref a_le])), (a_ak, .inl (kA, 16, .inl akF)), (a_os, .inl (kA, 24, .inl osF)), (a_le, .inl (kA, 256, .inl y67_leF'))] H := hP
          have hD : va_D A [(a_x, .inr (6, [.ref a_pl, .ref a_lo, .ref a_sh, .long trc])), (a_sh, .inr (5, [.int thg, .int req, .ref a_ak, .int ocn, .ref a_os, .ref a_le])), (a_ak, .inl (kA, 16, .inl akF)), (a_os, .inl (kA, 24, .inl osF)), (a_le, .inl (kA, 256, .inl y67_leF'))] := hD
          rw [hQ]
          exact rt_i (y67_leF') hx hb hr hlocks h hP hD hS dX6_serve_70
        · replace h := h.2 c1_3
          refine lv_tableOut (tgt := 71) hx hb dX6_serve_1 (ix4_out c1_0 c1_1 c1_2 c1_3) (by decide) ?_
          refine lv_iconst (v := (-1 : Int32)) hx hb dX6_serve_71 (by decide +kernel) ?_
          rw [hQ]
          exact rt_i (leF) hx hb hr hlocks h hP hD hS dX6_serve_72

/-- RentOrBuy.share -/
def rmX6_share : Room := { frames := 2, cells := 0, slots := 0, locals := 43 }
set_option maxHeartbeats 4000000 in
set_option maxRecDepth 100000 in
theorem c_X6_share (l : Launch) (dC : Nat → ClassId) (dI : Nat → Nat → Nat) (kA : ClassId) (a_x a_pl a_lo a_op a_oe a_sh a_tk a_rs : Nat) (sz : Nat) (trc : Int64) (days : Int32) (opF : Nat → Int32) (oeF : Nat → Int32) (p1 : Int32) (p2 : Int32) (p3 : Int32) (K : Int32 → (Nat → Int32) → (Nat → Int32) → Prop) (hg : g_X6_share trc days opF oeF p1 p2 p3 K) : Met l yX6_share wsX6_share rmX6_share (va_Pc [.ref a_x, .int p1, .int p2, .int p3] (prW (dC, dI) kA sz [(a_x, .inr (6, [.ref a_pl, .ref a_lo, .ref a_sh, .long trc])), (a_pl, .inr (3, [.int days, .ref a_tk, .ref a_rs])), (a_lo, .inr (2, [.ref a_op, .ref a_oe])), (a_op, .inl (kA, 42, .inl opF)), (a_oe, .inl (kA, 42, .inl oeF))])) (va_Qi (fun (r : Int32) (u : (Nat → Int32) × (Nat → Int32)) => K r u.1 u.2) (poW (dC, dI) (va_A [(a_x, .inr (6, [.ref a_pl, .ref a_lo, .ref a_sh, .long trc])), (a_pl, .inr (3, [.int days, .ref a_tk, .ref a_rs])), (a_lo, .inr (2, [.ref a_op, .ref a_oe])), (a_op, .inl (kA, 42, .inl opF)), (a_oe, .inl (kA, 42, .inl oeF))] sz) (fun (u : (Nat → Int32) × (Nat → Int32)) => [(a_x, .inr (6, [.ref a_pl, .ref a_lo, .ref a_sh, .long trc])), (a_pl, .inr (3, [.int days, .ref a_tk, .ref a_rs])), (a_lo, .inr (2, [.ref a_op, .ref a_oe])), (a_op, .inl (kA, 42, .inl u.1)), (a_oe, .inl (kA, 42, .inl u.2))])) (va_A [(a_x, .inr (6, [.ref a_pl, .ref a_lo, .ref a_sh, .long trc])), (a_pl, .inr (3, [.int days, .ref a_tk, .ref a_rs])), (a_lo, .inr (2, [.ref a_op, .ref a_oe])), (a_op, .inl (kA, 42, .inl opF)), (a_oe, .inl (kA, 42, .inl oeF))] sz)) 0 0 (va_A [(a_x, .inr (6, [.ref a_pl, .ref a_lo, .ref a_sh, .long trc])), (a_pl, .inr (3, [.int days, .ref a_tk, .ref a_rs])), (a_lo, .inr (2, [.ref a_op, .ref a_oe])), (a_op, .inl (kA, 42, .inl opF)), (a_oe, .inl (kA, 42, .inl oeF))] sz) := by
  refine Met.ofW (cc := cX6_share) (maxL := 4) (ret := (some .int)) (by decide) rfl ?_
  intro p e s m args below meth c s₁ B hml hv
  obtain ⟨hargs, hsz, hP, hK, hD0, hN⟩ := hv
  have hx := B.exec
  have hb := B.bytes
  have hr := B.returns
  have hts := atoms_spec (ws := wsX6_share) B.pre
  have hown : s.vm.findClass RX6 = some m.cls := findClass_of_methodNamed B.named
  have hlocks := B.notSynchronized
  subst hsz
  have hD := hD0.self (sz := s.heap.size)
  generalize hAe : va_A [(a_x, .inr (6, [.ref a_pl, .ref a_lo, .ref a_sh, .long trc])), (a_pl, .inr (3, [.int days, .ref a_tk, .ref a_rs])), (a_lo, .inr (2, [.ref a_op, .ref a_oe])), (a_op, .inl (kA, 42, .inl opF)), (a_oe, .inl (kA, 42, .inl oeF))] s.heap.size = A at hD ⊢
  have hA : ∀ q : Nat, s.heap.size ≤ q → A q := fun q h => by rw [← hAe]; exact Or.inr h
  have hS : va_S A s.heap s.heap [] := va_S.rf
  obtain ⟨Q, hQ⟩ : ∃ Q : State → Prop, Q = MQ below (va_Qi (fun (r : Int32) (u : (Nat → Int32) × (Nat → Int32)) => K r u.1 u.2) (poW (dC, dI) A (fun (u : (Nat → Int32) × (Nat → Int32)) => [(a_x, .inr (6, [.ref a_pl, .ref a_lo, .ref a_sh, .long trc])), (a_pl, .inr (3, [.int days, .ref a_tk, .ref a_rs])), (a_lo, .inr (2, [.ref a_op, .ref a_oe])), (a_op, .inl (kA, 42, .inl u.1)), (a_oe, .inl (kA, 42, .inl u.2))])) A) args s 0 0 A := ⟨_, rfl⟩
  rw [← hQ]
  have hP : va_P (dC, dI) vwCl [(a_x, .inr (6, [.ref a_pl, .ref a_lo, .ref a_sh, .long trc])), (a_pl, .inr (3, [.int days, .ref a_tk, .ref a_rs])), (a_lo, .inr (2, [.ref a_op, .ref a_oe])), (a_op, .inl (kA, 42, .inl opF)), (a_oe, .inl (kA, 42, .inl oeF))] s.heap := hP
  refine en_ok hargs (Nat.le_of_ble_eq_true rfl) (fun ls hl => ?_)
  have hl : lv_has ls 4 [(0, .ref a_x), (1, .int p1), (2, .int p2), (3, .int p3)] := hl
  have h := hg
  unfold g_X6_share at h
  refine lv_iload_n hx hb dX6_share_0 rfl (lv_at hl 1 rfl) ?_
  refine lv_iconst (v := (0 : Int32)) hx hb dX6_share_1 (by decide +kernel) ?_
  refine lv_iconst (v := (1 : Int32)) hx hb dX6_share_2 (by decide +kernel) ?_
  have hPc := hP.sub (ws' := []) [] rfl
  have hDc := hD.sub (ws' := []) [] (by decide) rfl
  refine fr_i (wr := [(a_x, .inr (6, [.ref a_pl, .ref a_lo, .ref a_sh, .long trc])), (a_pl, .inr (3, [.int days, .ref a_tk, .ref a_rs])), (a_lo, .inr (2, [.ref a_op, .ref a_oe])), (a_op, .inl (kA, 42, .inl opF)), (a_oe, .inl (kA, 42, .inl oeF))]) (WN := fun (u3 : Unit) => [(a_x, .inr (6, [.ref a_pl, .ref a_lo, .ref a_sh, .long trc])), (a_pl, .inr (3, [.int days, .ref a_tk, .ref a_rs])), (a_lo, .inr (2, [.ref a_op, .ref a_oe])), (a_op, .inl (kA, 42, .inl opF)), (a_oe, .inl (kA, 42, .inl oeF))]) (va_runS (As := [.int p1, .int (0 : Int32), .int (1 : Int32)]) (rest := []) ⟨hx, hb, hml, hown, hts⟩ (c_X6_isWithin l dC dI kA s.heap.size p1 (0 : Int32) (1 : Int32) _ h) (va_cwS 3 hts gX6_share_X6_isWithin rfl rfl rfl (by decide +kernel) ⟨Nat.le_of_ble_eq_true rfl, Nat.le_of_ble_eq_true rfl⟩) (prW.preS hPc hDc hK hN) rfl rfl hl.1 rfl (lv_room (Nat.le_of_ble_eq_true rfl)) dX6_share_3 ⟨Nat.le_of_ble_eq_true rfl, Nat.le_of_ble_eq_true rfl⟩) hP hD hS hA [] [0, 1, 2, 3, 4] rfl rfl (by decide) (by decide) [0, 1, 2, 3, 4] (by decide) (fun _ => rfl) (fun r3 u3 H locs h hP hD hS => ?_)
  have hP : va_P (dC, dI) vwCl [(a_x, .inr (6, [.ref a_pl, .ref a_lo, .ref a_sh, .long trc])), (a_pl, .inr (3, [.int days, .ref a_tk, .ref a_rs])), (a_lo, .inr (2, [.ref a_op, .ref a_oe])), (a_op, .inl (kA, 42, .inl opF)), (a_oe, .inl (kA, 42, .inl oeF))] H := hP
  have hD : va_D A [(a_x, .inr (6, [.ref a_pl, .ref a_lo, .ref a_sh, .long trc])), (a_pl, .inr (3, [.int days, .ref a_tk, .ref a_rs])), (a_lo, .inr (2, [.ref a_op, .ref a_oe])), (a_op, .inl (kA, 42, .inl opF)), (a_oe, .inl (kA, 42, .inl oeF))] := hD
  refine lv_if_eq (tgt := 19) hx hb dX6_share_6 (by decide) (fun c6 => ?_) (fun c6 => ?_)
  · replace h := h.1 c6
    refine lv_iconst (v := (-1 : Int32)) hx hb dX6_share_19 (by decide +kernel) ?_
    rw [hQ]
    exact rt_i (opF, oeF) hx hb hr hlocks h hP hD hS dX6_share_20
  · replace h := h.2 c6
    refine lv_iload_n hx hb dX6_share_9 rfl (lv_at hl 3 rfl) ?_
    refine lv_iconst (v := (0 : Int32)) hx hb dX6_share_10 (by decide +kernel) ?_
    refine lv_bipush (v := (9 : Int32)) hx hb dX6_share_11 (by decide +kernel) ?_
    have hPc := hP.sub (ws' := []) [] rfl
    have hDc := hD.sub (ws' := []) [] (by decide) rfl
    refine fr_i (wr := [(a_x, .inr (6, [.ref a_pl, .ref a_lo, .ref a_sh, .long trc])), (a_pl, .inr (3, [.int days, .ref a_tk, .ref a_rs])), (a_lo, .inr (2, [.ref a_op, .ref a_oe])), (a_op, .inl (kA, 42, .inl opF)), (a_oe, .inl (kA, 42, .inl oeF))]) (WN := fun (u13 : Unit) => [(a_x, .inr (6, [.ref a_pl, .ref a_lo, .ref a_sh, .long trc])), (a_pl, .inr (3, [.int days, .ref a_tk, .ref a_rs])), (a_lo, .inr (2, [.ref a_op, .ref a_oe])), (a_op, .inl (kA, 42, .inl opF)), (a_oe, .inl (kA, 42, .inl oeF))]) (va_runS (As := [.int p3, .int (0 : Int32), .int (9 : Int32)]) (rest := []) ⟨hx, hb, hml, hown, hts⟩ (c_X6_isWithin l dC dI kA H.size p3 (0 : Int32) (9 : Int32) _ h) (va_cwS 3 hts gX6_share_X6_isWithin rfl rfl rfl (by decide +kernel) ⟨Nat.le_of_ble_eq_true rfl, Nat.le_of_ble_eq_true rfl⟩) (prW.preS hPc hDc hK hN) rfl rfl hl.1 rfl (lv_room (Nat.le_of_ble_eq_true rfl)) dX6_share_13 ⟨Nat.le_of_ble_eq_true rfl, Nat.le_of_ble_eq_true rfl⟩) hP hD hS hA [] [0, 1, 2, 3, 4] rfl rfl (by decide) (by decide) [0, 1, 2, 3, 4] (by decide) (fun _ => rfl) (fun r13 u13 H locs h hP hD hS => ?_)
    have hP : va_P (dC, dI) vwCl [(a_x, .inr (6, [.ref a_pl, .ref a_lo, .ref a_sh, .long trc])), (a_pl, .inr (3, [.int days, .ref a_tk, .ref a_rs])), (a_lo, .inr (2, [.ref a_op, .ref a_oe])), (a_op, .inl (kA, 42, .inl opF)), (a_oe, .inl (kA, 42, .inl oeF))] H := hP
    have hD : va_D A [(a_x, .inr (6, [.ref a_pl, .ref a_lo, .ref a_sh, .long trc])), (a_pl, .inr (3, [.int days, .ref a_tk, .ref a_rs])), (a_lo, .inr (2, [.ref a_op, .ref a_oe])), (a_op, .inl (kA, 42, .inl opF)), (a_oe, .inl (kA, 42, .inl oeF))] := hD
    refine lv_if_ne (tgt := 21) hx hb dX6_share_16 (by decide) (fun c16 => ?_) (fun c16 => ?_)
    · replace h := h.1 c16
      refine lv_iload_n hx hb dX6_share_21 rfl (lv_at hl 1 rfl) ?_
      obtain ⟨J52, hR52, h⟩ := h
      have hJ52 : J52 → ∀ (H : Heap) (locs : List Loc) (ls : Array Slot), va_P (dC, dI) vwCl [(a_x, .inr (6, [.ref a_pl, .ref a_lo, .ref a_sh, .long trc])), (a_pl, .inr (3, [.int days, .ref a_tk, .ref a_rs])), (a_lo, .inr (2, [.ref a_op, .ref a_oe])), (a_op, .inl (kA, 42, .inl opF)), (a_oe, .inl (kA, 42, .inl oeF))] H → va_D A [(a_x, .inr (6, [.ref a_pl, .ref a_lo, .ref a_sh, .long trc])), (a_pl, .inr (3, [.int days, .ref a_tk, .ref a_rs])), (a_lo, .inr (2, [.ref a_op, .ref a_oe])), (a_op, .inl (kA, 42, .inl opF)), (a_oe, .inl (kA, 42, .inl oeF))] → va_S A s.heap H locs → lv_has ls 4 [(0, .ref a_x), (1, .int p1), (2, .int p2), (3, .int p3)] → W p l e (headSpec wsX6_share rmX6_share).room s m args below meth c H locs 0 0 Q (F0 m 52 ls []) := by
        intro  h H locs ls hP hD hS hl
        replace h := hR52  h
        refine lv_iload_n hx hb dX6_share_52 rfl (lv_at hl 1 rfl) ?_
        refine lv_if_ne (tgt := 66) hx hb dX6_share_53 (by decide) (fun c53 => ?_) (fun c53 => ?_)
        · replace h := h.1 c53
          refine lv_aload_n hx hb dX6_share_66 rfl (lv_at hl 0 rfl) ?_
          refine va_get (D := (dC, dI)) (ci := 6) (v := .ref a_lo) (C := RX6) (T := TX6) (N := 4) hx hb hts (fun _ h => List.mem_cons_of_mem _ (List.mem_append_left _ (List.mem_append_left _ (List.mem_append_right _ h)))) hown hK hP 0 rfl rfl 1 (by decide) (hts (.fieldLink RX6 19 "RentOrBuy" "lots" "LRentOrBuy$Lots;") (List.mem_cons_of_mem _ (List.mem_append_left _ (List.mem_append_left _ (List.mem_append_left _ (List.mem_of_getElem? (i := 1) rfl)))))) (fun _ h9 => h9) rfl dX6_share_67 ?_
          refine va_getN (D := (dC, dI)) (ci := 2) (v := .ref a_oe) (C := RX2) (T := TX2) (N := 2) hx hb hts (fun _ h => List.mem_cons_of_mem _ (List.mem_append_left _ (List.mem_append_right _ h))) hown hK hP 2 rfl rfl 1 (by decide) (hN.f 5 rfl) (fun _ h9 => h9) rfl dX6_share_70 ?_
          refine lv_iload_n hx hb dX6_share_73 rfl (lv_at hl 2 rfl) ?_
          refine lv_iload_n hx hb dX6_share_74 rfl (lv_at hl 3 rfl) ?_
          have hPc := hP.sub (ws' := [(a_oe, .inl (kA, 42, .inl oeF))]) [4] rfl
          have hDc := hD.sub (ws' := [(a_oe, .inl (kA, 42, .inl oeF))]) [4] (by decide) rfl
          refine fr_i (wr := [(a_x, .inr (6, [.ref a_pl, .ref a_lo, .ref a_sh, .long trc])), (a_pl, .inr (3, [.int days, .ref a_tk, .ref a_rs])), (a_lo, .inr (2, [.ref a_op, .ref a_oe])), (a_op, .inl (kA, 42, .inl opF))]) (WN := fun (u75 : (Nat → Int32)) => [(a_x, .inr (6, [.ref a_pl, .ref a_lo, .ref a_sh, .long trc])), (a_pl, .inr (3, [.int days, .ref a_tk, .ref a_rs])), (a_lo, .inr (2, [.ref a_op, .ref a_oe])), (a_op, .inl (kA, 42, .inl opF)), (a_oe, .inl (kA, 42, .inl u75))]) (va_runS (As := [.ref a_oe, .int p2, .int p3]) (rest := []) ⟨hx, hb, hml, hown, hts⟩ (c_X2_replace l dC dI kA a_oe H.size oeF p2 p3 _ h) (va_cwS 3 hts gX6_share_X2_replace rfl rfl rfl (by decide +kernel) ⟨Nat.le_of_ble_eq_true rfl, Nat.le_of_ble_eq_true rfl⟩) (prW.preS hPc hDc hK hN) rfl rfl hl.1 rfl (lv_room (Nat.le_of_ble_eq_true rfl)) dX6_share_75 ⟨Nat.le_of_ble_eq_true rfl, Nat.le_of_ble_eq_true rfl⟩) hP hD hS hA [4] [0, 1, 2, 3] rfl rfl (by decide) (by decide) [0, 1, 2, 3, 4] (by decide) (fun _ => rfl) (fun r75 u75 H locs h hP hD hS => ?_)
          obtain ⟨y75_arF', rfl⟩ : ∃ z, z = u75 := ⟨_, rfl⟩
          have hP : va_P (dC, dI) vwCl [(a_x, .inr (6, [.ref a_pl, .ref a_lo, .ref a_sh, .long trc])), (a_pl, .inr (3, [.int days, .ref a_tk, .ref a_rs])), (a_lo, .inr (2, [.ref a_op, .ref a_oe])), (a_op, .inl (kA, 42, .inl opF)), (a_oe, .inl (kA, 42, .inl y75_arF'))] H := hP
          have hD : va_D A [(a_x, .inr (6, [.ref a_pl, .ref a_lo, .ref a_sh, .long trc])), (a_pl, .inr (3, [.int days, .ref a_tk, .ref a_rs])), (a_lo, .inr (2, [.ref a_op, .ref a_oe])), (a_op, .inl (kA, 42, .inl opF)), (a_oe, .inl (kA, 42, .inl y75_arF'))] := hD
          rw [hQ]
          exact rt_i (opF, y75_arF') hx hb hr hlocks h hP hD hS dX6_share_78
        · replace h := h.2 c53
          refine lv_aload_n hx hb dX6_share_56 rfl (lv_at hl 0 rfl) ?_
          refine va_get (D := (dC, dI)) (ci := 6) (v := .ref a_lo) (C := RX6) (T := TX6) (N := 4) hx hb hts (fun _ h => List.mem_cons_of_mem _ (List.mem_append_left _ (List.mem_append_left _ (List.mem_append_right _ h)))) hown hK hP 0 rfl rfl 1 (by decide) (hts (.fieldLink RX6 19 "RentOrBuy" "lots" "LRentOrBuy$Lots;") (List.mem_cons_of_mem _ (List.mem_append_left _ (List.mem_append_left _ (List.mem_append_left _ (List.mem_of_getElem? (i := 1) rfl)))))) (fun _ h9 => h9) rfl dX6_share_57 ?_
          refine va_getN (D := (dC, dI)) (ci := 2) (v := .ref a_op) (C := RX2) (T := TX2) (N := 2) hx hb hts (fun _ h => List.mem_cons_of_mem _ (List.mem_append_left _ (List.mem_append_right _ h))) hown hK hP 2 rfl rfl 0 (by decide) (hN.f 4 rfl) (fun _ h9 => h9) rfl dX6_share_60 ?_
          refine lv_goto (tgt := 73) hx hb dX6_share_63 (by decide) ?_
          refine lv_iload_n hx hb dX6_share_73 rfl (lv_at hl 2 rfl) ?_
          refine lv_iload_n hx hb dX6_share_74 rfl (lv_at hl 3 rfl) ?_
          have hPc := hP.sub (ws' := [(a_op, .inl (kA, 42, .inl opF))]) [3] rfl
          have hDc := hD.sub (ws' := [(a_op, .inl (kA, 42, .inl opF))]) [3] (by decide) rfl
          refine fr_i (wr := [(a_x, .inr (6, [.ref a_pl, .ref a_lo, .ref a_sh, .long trc])), (a_pl, .inr (3, [.int days, .ref a_tk, .ref a_rs])), (a_lo, .inr (2, [.ref a_op, .ref a_oe])), (a_oe, .inl (kA, 42, .inl oeF))]) (WN := fun (u75 : (Nat → Int32)) => [(a_x, .inr (6, [.ref a_pl, .ref a_lo, .ref a_sh, .long trc])), (a_pl, .inr (3, [.int days, .ref a_tk, .ref a_rs])), (a_lo, .inr (2, [.ref a_op, .ref a_oe])), (a_op, .inl (kA, 42, .inl u75)), (a_oe, .inl (kA, 42, .inl oeF))]) (va_runS (As := [.ref a_op, .int p2, .int p3]) (rest := []) ⟨hx, hb, hml, hown, hts⟩ (c_X2_replace l dC dI kA a_op H.size opF p2 p3 _ h) (va_cwS 3 hts gX6_share_X2_replace rfl rfl rfl (by decide +kernel) ⟨Nat.le_of_ble_eq_true rfl, Nat.le_of_ble_eq_true rfl⟩) (prW.preS hPc hDc hK hN) rfl rfl hl.1 rfl (lv_room (Nat.le_of_ble_eq_true rfl)) dX6_share_75 ⟨Nat.le_of_ble_eq_true rfl, Nat.le_of_ble_eq_true rfl⟩) hP hD hS hA [3] [0, 1, 2, 4] rfl rfl (by decide) (by decide) [0, 1, 2, 4, 3] (by decide) (fun _ => rfl) (fun r75 u75 H locs h hP hD hS => ?_)
          obtain ⟨y75_arF', rfl⟩ : ∃ z, z = u75 := ⟨_, rfl⟩
          have hP : va_P (dC, dI) vwCl [(a_x, .inr (6, [.ref a_pl, .ref a_lo, .ref a_sh, .long trc])), (a_pl, .inr (3, [.int days, .ref a_tk, .ref a_rs])), (a_lo, .inr (2, [.ref a_op, .ref a_oe])), (a_op, .inl (kA, 42, .inl y75_arF')), (a_oe, .inl (kA, 42, .inl oeF))] H := hP
          have hD : va_D A [(a_x, .inr (6, [.ref a_pl, .ref a_lo, .ref a_sh, .long trc])), (a_pl, .inr (3, [.int days, .ref a_tk, .ref a_rs])), (a_lo, .inr (2, [.ref a_op, .ref a_oe])), (a_op, .inl (kA, 42, .inl y75_arF')), (a_oe, .inl (kA, 42, .inl oeF))] := hD
          rw [hQ]
          exact rt_i (y75_arF', oeF) hx hb hr hlocks h hP hD hS dX6_share_78
      refine lv_if_ne (tgt := 39) hx hb dX6_share_22 (by decide) (fun c22 => ?_) (fun c22 => ?_)
      · replace h := h.1 c22
        refine lv_aload_n hx hb dX6_share_39 rfl (lv_at hl 0 rfl) ?_
        refine va_get (D := (dC, dI)) (ci := 6) (v := .ref a_pl) (C := RX6) (T := TX6) (N := 4) hx hb hts (fun _ h => List.mem_cons_of_mem _ (List.mem_append_left _ (List.mem_append_left _ (List.mem_append_right _ h)))) hown hK hP 0 rfl rfl 0 (by decide) (hts (.fieldLink RX6 10 "RentOrBuy" "plans" "LRentOrBuy$Plans;") (List.mem_cons_of_mem _ (List.mem_append_left _ (List.mem_append_left _ (List.mem_append_left _ (List.mem_of_getElem? (i := 0) rfl)))))) (fun _ h9 => h9) rfl dX6_share_40 ?_
        refine lv_iload_n hx hb dX6_share_43 rfl (lv_at hl 2 rfl) ?_
        have hPc := hP.sub (ws' := [(a_pl, .inr (3, [.int days, .ref a_tk, .ref a_rs]))]) [1] rfl
        have hDc := hD.sub (ws' := [(a_pl, .inr (3, [.int days, .ref a_tk, .ref a_rs]))]) [1] (by decide) rfl
        refine fr_i (wr := [(a_x, .inr (6, [.ref a_pl, .ref a_lo, .ref a_sh, .long trc])), (a_lo, .inr (2, [.ref a_op, .ref a_oe])), (a_op, .inl (kA, 42, .inl opF)), (a_oe, .inl (kA, 42, .inl oeF))]) (WN := fun (u44 : Unit) => [(a_x, .inr (6, [.ref a_pl, .ref a_lo, .ref a_sh, .long trc])), (a_pl, .inr (3, [.int days, .ref a_tk, .ref a_rs])), (a_lo, .inr (2, [.ref a_op, .ref a_oe])), (a_op, .inl (kA, 42, .inl opF)), (a_oe, .inl (kA, 42, .inl oeF))]) (va_runV (As := [.int p2]) (rest := []) ⟨hx, hb, hml, hown, hts⟩ (c_X3_isEnd l dC dI kA a_pl a_tk a_rs H.size days p2 _ h) (cwV 1 hts gX6_share_X3_isEnd rfl rfl rfl (by decide +kernel) ⟨Nat.le_of_ble_eq_true rfl, Nat.le_of_ble_eq_true rfl⟩) (prW.preV (ci := 3) (q0 := 0) hPc hDc hK hN rfl rfl) rfl rfl hl.1 rfl (lv_room (Nat.le_of_ble_eq_true rfl)) dX6_share_44 ⟨Nat.le_of_ble_eq_true rfl, Nat.le_of_ble_eq_true rfl⟩) hP hD hS hA [1] [0, 2, 3, 4] rfl rfl (by decide) (by decide) [0, 4, 1, 2, 3] (by decide) (fun _ => rfl) (fun r44 u44 H locs h hP hD hS => ?_)
        have hP : va_P (dC, dI) vwCl [(a_x, .inr (6, [.ref a_pl, .ref a_lo, .ref a_sh, .long trc])), (a_pl, .inr (3, [.int days, .ref a_tk, .ref a_rs])), (a_lo, .inr (2, [.ref a_op, .ref a_oe])), (a_op, .inl (kA, 42, .inl opF)), (a_oe, .inl (kA, 42, .inl oeF))] H := hP
        have hD : va_D A [(a_x, .inr (6, [.ref a_pl, .ref a_lo, .ref a_sh, .long trc])), (a_pl, .inr (3, [.int days, .ref a_tk, .ref a_rs])), (a_lo, .inr (2, [.ref a_op, .ref a_oe])), (a_op, .inl (kA, 42, .inl opF)), (a_oe, .inl (kA, 42, .inl oeF))] := hD
        refine lv_if_ne (tgt := 52) hx hb dX6_share_47 (by decide) (fun c47 => ?_) (fun c47 => ?_)
        · replace h := h.1 c47
          exact hJ52 h _ _ _ hP hD hS (lv_sub hl [0, 1, 2, 3] rfl)
        · replace h := h.2 c47
          refine lv_iconst (v := (-1 : Int32)) hx hb dX6_share_50 (by decide +kernel) ?_
          rw [hQ]
          exact rt_i (opF, oeF) hx hb hr hlocks h hP hD hS dX6_share_51
      · replace h := h.2 c22
        refine lv_aload_n hx hb dX6_share_25 rfl (lv_at hl 0 rfl) ?_
        refine va_get (D := (dC, dI)) (ci := 6) (v := .ref a_pl) (C := RX6) (T := TX6) (N := 4) hx hb hts (fun _ h => List.mem_cons_of_mem _ (List.mem_append_left _ (List.mem_append_left _ (List.mem_append_right _ h)))) hown hK hP 0 rfl rfl 0 (by decide) (hts (.fieldLink RX6 10 "RentOrBuy" "plans" "LRentOrBuy$Plans;") (List.mem_cons_of_mem _ (List.mem_append_left _ (List.mem_append_left _ (List.mem_append_left _ (List.mem_of_getElem? (i := 0) rfl)))))) (fun _ h9 => h9) rfl dX6_share_26 ?_
        refine lv_iload_n hx hb dX6_share_29 rfl (lv_at hl 2 rfl) ?_
        have hPc := hP.sub (ws' := [(a_pl, .inr (3, [.int days, .ref a_tk, .ref a_rs]))]) [1] rfl
        have hDc := hD.sub (ws' := [(a_pl, .inr (3, [.int days, .ref a_tk, .ref a_rs]))]) [1] (by decide) rfl
        refine fr_i (wr := [(a_x, .inr (6, [.ref a_pl, .ref a_lo, .ref a_sh, .long trc])), (a_lo, .inr (2, [.ref a_op, .ref a_oe])), (a_op, .inl (kA, 42, .inl opF)), (a_oe, .inl (kA, 42, .inl oeF))]) (WN := fun (u30 : Unit) => [(a_x, .inr (6, [.ref a_pl, .ref a_lo, .ref a_sh, .long trc])), (a_pl, .inr (3, [.int days, .ref a_tk, .ref a_rs])), (a_lo, .inr (2, [.ref a_op, .ref a_oe])), (a_op, .inl (kA, 42, .inl opF)), (a_oe, .inl (kA, 42, .inl oeF))]) (va_runV (As := [.int p2]) (rest := []) ⟨hx, hb, hml, hown, hts⟩ (c_X3_isPlan l dC dI kA a_pl a_tk a_rs H.size days p2 _ h) (cwV 1 hts gX6_share_X3_isPlan rfl rfl rfl (by decide +kernel) ⟨Nat.le_of_ble_eq_true rfl, Nat.le_of_ble_eq_true rfl⟩) (prW.preV (ci := 3) (q0 := 0) hPc hDc hK hN rfl rfl) rfl rfl hl.1 rfl (lv_room (Nat.le_of_ble_eq_true rfl)) dX6_share_30 ⟨Nat.le_of_ble_eq_true rfl, Nat.le_of_ble_eq_true rfl⟩) hP hD hS hA [1] [0, 2, 3, 4] rfl rfl (by decide) (by decide) [0, 4, 1, 2, 3] (by decide) (fun _ => rfl) (fun r30 u30 H locs h hP hD hS => ?_)
        have hP : va_P (dC, dI) vwCl [(a_x, .inr (6, [.ref a_pl, .ref a_lo, .ref a_sh, .long trc])), (a_pl, .inr (3, [.int days, .ref a_tk, .ref a_rs])), (a_lo, .inr (2, [.ref a_op, .ref a_oe])), (a_op, .inl (kA, 42, .inl opF)), (a_oe, .inl (kA, 42, .inl oeF))] H := hP
        have hD : va_D A [(a_x, .inr (6, [.ref a_pl, .ref a_lo, .ref a_sh, .long trc])), (a_pl, .inr (3, [.int days, .ref a_tk, .ref a_rs])), (a_lo, .inr (2, [.ref a_op, .ref a_oe])), (a_op, .inl (kA, 42, .inl opF)), (a_oe, .inl (kA, 42, .inl oeF))] := hD
        refine lv_if_ne (tgt := 52) hx hb dX6_share_33 (by decide) (fun c33 => ?_) (fun c33 => ?_)
        · replace h := h.1 c33
          exact hJ52 h _ _ _ hP hD hS (lv_sub hl [0, 1, 2, 3] rfl)
        · replace h := h.2 c33
          refine lv_goto (tgt := 50) hx hb dX6_share_36 (by decide) ?_
          refine lv_iconst (v := (-1 : Int32)) hx hb dX6_share_50 (by decide +kernel) ?_
          rw [hQ]
          exact rt_i (opF, oeF) hx hb hr hlocks h hP hD hS dX6_share_51
    · replace h := h.2 c16
      refine lv_iconst (v := (-1 : Int32)) hx hb dX6_share_19 (by decide +kernel) ?_
      rw [hQ]
      exact rt_i (opF, oeF) hx hb hr hlocks h hP hD hS dX6_share_20

/-- RentOrBuy.sure -/
def rmX6_sure : Room := { frames := 5, cells := 0, slots := 0, locals := 105 }
set_option maxHeartbeats 4000000 in
set_option maxRecDepth 100000 in
theorem c_X6_sure (l : Launch) (dC : Nat → ClassId) (dI : Nat → Nat → Nat) (kA : ClassId) (a_x a_pl a_tk a_rs a_lo a_sh : Nat) (sz : Nat) (trc : Int64) (days : Int32) (tkk : Nat) (tkd : Int32) (tkp : Int32) (tkr : Int32) (tkc : Int32) (rsF : Nat → Int32) (K : Int32 → Prop) (hg : g_X6_sure trc days tkk tkd tkp tkr tkc rsF K) : Met l yX6_sure wsX6_sure rmX6_sure (va_Pc [.ref a_x] (prW (dC, dI) kA sz [(a_x, .inr (6, [.ref a_pl, .ref a_lo, .ref a_sh, .long trc])), (a_pl, .inr (3, [.int days, .ref a_tk, .ref a_rs])), (a_tk, tkE tkk tkd tkp tkr tkc), (a_rs, .inl (kA, 41, .inl rsF))])) (va_Qi (fun (r : Int32) (u : Unit) => K r) (poW (dC, dI) (va_A [(a_x, .inr (6, [.ref a_pl, .ref a_lo, .ref a_sh, .long trc])), (a_pl, .inr (3, [.int days, .ref a_tk, .ref a_rs])), (a_tk, tkE tkk tkd tkp tkr tkc), (a_rs, .inl (kA, 41, .inl rsF))] sz) (fun (u : Unit) => [(a_x, .inr (6, [.ref a_pl, .ref a_lo, .ref a_sh, .long trc])), (a_pl, .inr (3, [.int days, .ref a_tk, .ref a_rs])), (a_tk, tkE tkk tkd tkp tkr tkc), (a_rs, .inl (kA, 41, .inl rsF))])) (va_A [(a_x, .inr (6, [.ref a_pl, .ref a_lo, .ref a_sh, .long trc])), (a_pl, .inr (3, [.int days, .ref a_tk, .ref a_rs])), (a_tk, tkE tkk tkd tkp tkr tkc), (a_rs, .inl (kA, 41, .inl rsF))] sz)) 0 0 (va_A [(a_x, .inr (6, [.ref a_pl, .ref a_lo, .ref a_sh, .long trc])), (a_pl, .inr (3, [.int days, .ref a_tk, .ref a_rs])), (a_tk, tkE tkk tkd tkp tkr tkc), (a_rs, .inl (kA, 41, .inl rsF))] sz) := by
  refine Met.ofW (cc := cX6_sure) (maxL := 1) (ret := (some .int)) (by decide) rfl ?_
  intro p e s m args below meth c s₁ B hml hv
  obtain ⟨hargs, hsz, hP, hK, hD0, hN⟩ := hv
  have hx := B.exec
  have hb := B.bytes
  have hr := B.returns
  have hts := atoms_spec (ws := wsX6_sure) B.pre
  have hown : s.vm.findClass RX6 = some m.cls := findClass_of_methodNamed B.named
  have hlocks := B.notSynchronized
  subst hsz
  have hD := hD0.self (sz := s.heap.size)
  generalize hAe : va_A [(a_x, .inr (6, [.ref a_pl, .ref a_lo, .ref a_sh, .long trc])), (a_pl, .inr (3, [.int days, .ref a_tk, .ref a_rs])), (a_tk, tkE tkk tkd tkp tkr tkc), (a_rs, .inl (kA, 41, .inl rsF))] s.heap.size = A at hD ⊢
  have hA : ∀ q : Nat, s.heap.size ≤ q → A q := fun q h => by rw [← hAe]; exact Or.inr h
  have hS : va_S A s.heap s.heap [] := va_S.rf
  obtain ⟨Q, hQ⟩ : ∃ Q : State → Prop, Q = MQ below (va_Qi (fun (r : Int32) (u : Unit) => K r) (poW (dC, dI) A (fun (u : Unit) => [(a_x, .inr (6, [.ref a_pl, .ref a_lo, .ref a_sh, .long trc])), (a_pl, .inr (3, [.int days, .ref a_tk, .ref a_rs])), (a_tk, tkE tkk tkd tkp tkr tkc), (a_rs, .inl (kA, 41, .inl rsF))])) A) args s 0 0 A := ⟨_, rfl⟩
  rw [← hQ]
  have hP : va_P (dC, dI) vwCl [(a_x, .inr (6, [.ref a_pl, .ref a_lo, .ref a_sh, .long trc])), (a_pl, .inr (3, [.int days, .ref a_tk, .ref a_rs])), (a_tk, tkE tkk tkd tkp tkr tkc), (a_rs, .inl (kA, 41, .inl rsF))] s.heap := hP
  refine en_ok hargs (Nat.le_of_ble_eq_true rfl) (fun ls hl => ?_)
  have hl : lv_has ls 1 [(0, .ref a_x)] := hl
  have h := hg
  unfold g_X6_sure at h
  refine lv_aload_n hx hb dX6_sure_0 rfl (lv_at hl 0 rfl) ?_
  refine va_get (D := (dC, dI)) (ci := 6) (v := .ref a_pl) (C := RX6) (T := TX6) (N := 4) hx hb hts (fun _ h => List.mem_cons_of_mem _ (List.mem_append_left _ (List.mem_append_left _ (List.mem_append_left _ (List.mem_append_left _ (List.mem_append_right _ h)))))) hown hK hP 0 rfl rfl 0 (by decide) (hts (.fieldLink RX6 10 "RentOrBuy" "plans" "LRentOrBuy$Plans;") (List.mem_cons_of_mem _ (List.mem_append_left _ (List.mem_append_left _ (List.mem_append_left _ (List.mem_append_left _ (List.mem_append_left _ (List.mem_of_getElem? (i := 0) rfl)))))))) (fun _ h9 => h9) rfl dX6_sure_1 ?_
  have hPc := hP.sub (ws' := [(a_pl, .inr (3, [.int days, .ref a_tk, .ref a_rs])), (a_tk, tkE tkk tkd tkp tkr tkc), (a_rs, .inl (kA, 41, .inl rsF))]) [1, 2, 3] rfl
  have hDc := hD.sub (ws' := [(a_pl, .inr (3, [.int days, .ref a_tk, .ref a_rs])), (a_tk, tkE tkk tkd tkp tkr tkc), (a_rs, .inl (kA, 41, .inl rsF))]) [1, 2, 3] (by decide) rfl
  refine fr_i (wr := [(a_x, .inr (6, [.ref a_pl, .ref a_lo, .ref a_sh, .long trc]))]) (WN := fun (u4 : Unit) => [(a_x, .inr (6, [.ref a_pl, .ref a_lo, .ref a_sh, .long trc])), (a_pl, .inr (3, [.int days, .ref a_tk, .ref a_rs])), (a_tk, tkE tkk tkd tkp tkr tkc), (a_rs, .inl (kA, 41, .inl rsF))]) (va_runV (As := []) (rest := []) ⟨hx, hb, hml, hown, hts⟩ (c_X3_surePlan l dC dI kA a_pl a_tk a_rs s.heap.size days tkk tkd tkp tkr tkc rsF _ h) (cwV 0 hts gX6_sure_X3_surePlan rfl rfl rfl (by decide +kernel) ⟨Nat.le_of_ble_eq_true rfl, Nat.le_of_ble_eq_true rfl⟩) (prW.preV (ci := 3) (q0 := 0) hPc hDc hK hN rfl rfl) rfl rfl hl.1 rfl (lv_room (Nat.le_of_ble_eq_true rfl)) dX6_sure_4 ⟨Nat.le_of_ble_eq_true rfl, Nat.le_of_ble_eq_true rfl⟩) hP hD hS hA [1, 2, 3] [0] rfl rfl (by decide) (by decide) [0, 1, 2, 3] (by decide) (fun _ => rfl) (fun r4 u4 H locs h hP hD hS => ?_)
  have hP : va_P (dC, dI) vwCl [(a_x, .inr (6, [.ref a_pl, .ref a_lo, .ref a_sh, .long trc])), (a_pl, .inr (3, [.int days, .ref a_tk, .ref a_rs])), (a_tk, tkE tkk tkd tkp tkr tkc), (a_rs, .inl (kA, 41, .inl rsF))] H := hP
  have hD : va_D A [(a_x, .inr (6, [.ref a_pl, .ref a_lo, .ref a_sh, .long trc])), (a_pl, .inr (3, [.int days, .ref a_tk, .ref a_rs])), (a_tk, tkE tkk tkd tkp tkr tkc), (a_rs, .inl (kA, 41, .inl rsF))] := hD
  rw [hQ]
  exact rt_i () hx hb hr hlocks h hP hD hS dX6_sure_7

/-- RentOrBuy.trace -/
def rmX6_trace : Room := { frames := 0, cells := 0, slots := 0, locals := 0 }
set_option maxHeartbeats 4000000 in
set_option maxRecDepth 100000 in
theorem c_X6_trace (l : Launch) (dC : Nat → ClassId) (dI : Nat → Nat → Nat) (kA : ClassId) (a_x a_pl a_lo a_sh : Nat) (sz : Nat) (trc : Int64) (K : Int64 → Prop) (hg : g_X6_trace trc K) : Met l yX6_trace wsX6_trace rmX6_trace (va_Pc [.ref a_x] (prW (dC, dI) kA sz [(a_x, .inr (6, [.ref a_pl, .ref a_lo, .ref a_sh, .long trc]))])) (va_Ql (fun (r : Int64) (u : Unit) => K r) (poW (dC, dI) (va_A [(a_x, .inr (6, [.ref a_pl, .ref a_lo, .ref a_sh, .long trc]))] sz) (fun (u : Unit) => [(a_x, .inr (6, [.ref a_pl, .ref a_lo, .ref a_sh, .long trc]))])) (va_A [(a_x, .inr (6, [.ref a_pl, .ref a_lo, .ref a_sh, .long trc]))] sz)) 0 0 (va_A [(a_x, .inr (6, [.ref a_pl, .ref a_lo, .ref a_sh, .long trc]))] sz) := by
  refine Met.ofW (cc := cX6_trace) (maxL := 1) (ret := (some .long)) (by decide) rfl ?_
  intro p e s m args below meth c s₁ B hml hv
  obtain ⟨hargs, hsz, hP, hK, hD0, hN⟩ := hv
  have hx := B.exec
  have hb := B.bytes
  have hr := B.returns
  have hts := atoms_spec (ws := wsX6_trace) B.pre
  have hown : s.vm.findClass RX6 = some m.cls := findClass_of_methodNamed B.named
  have hlocks := B.notSynchronized
  subst hsz
  have hD := hD0.self (sz := s.heap.size)
  generalize hAe : va_A [(a_x, .inr (6, [.ref a_pl, .ref a_lo, .ref a_sh, .long trc]))] s.heap.size = A at hD ⊢
  have hA : ∀ q : Nat, s.heap.size ≤ q → A q := fun q h => by rw [← hAe]; exact Or.inr h
  have hS : va_S A s.heap s.heap [] := va_S.rf
  obtain ⟨Q, hQ⟩ : ∃ Q : State → Prop, Q = MQ below (va_Ql (fun (r : Int64) (u : Unit) => K r) (poW (dC, dI) A (fun (u : Unit) => [(a_x, .inr (6, [.ref a_pl, .ref a_lo, .ref a_sh, .long trc]))])) A) args s 0 0 A := ⟨_, rfl⟩
  rw [← hQ]
  have hP : va_P (dC, dI) vwCl [(a_x, .inr (6, [.ref a_pl, .ref a_lo, .ref a_sh, .long trc]))] s.heap := hP
  refine en_ok hargs (Nat.le_of_ble_eq_true rfl) (fun ls hl => ?_)
  have hl : lv_has ls 1 [(0, .ref a_x)] := hl
  have h := hg
  unfold g_X6_trace at h
  refine lv_aload_n hx hb dX6_trace_0 rfl (lv_at hl 0 rfl) ?_
  refine va_get (D := (dC, dI)) (ci := 6) (v := .long trc) (C := RX6) (T := TX6) (N := 4) hx hb hts (fun _ h => List.mem_cons_of_mem _ (List.mem_append_right _ h)) hown hK hP 0 rfl rfl 3 (by decide) (hts (.fieldLink RX6 30 "RentOrBuy" "traced" "J") (List.mem_cons_of_mem _ (List.mem_append_left _ (List.mem_of_getElem? (i := 0) rfl)))) (fun _ h9 => h9) rfl dX6_trace_1 ?_
  rw [hQ]
  exact rt_l () hx hb hr hlocks h hP hD hS dX6_trace_4

/-- RentOrBuy.trust -/
def rmX6_trust : Room := { frames := 6, cells := 0, slots := 0, locals := 128 }
set_option maxHeartbeats 4000000 in
set_option maxRecDepth 100000 in
theorem c_X6_trust (l : Launch) (dC : Nat → ClassId) (dI : Nat → Nat → Nat) (kA : ClassId) (a_x a_pl a_tk a_rs a_lo a_sh : Nat) (sz : Nat) (trc : Int64) (days : Int32) (tkk : Nat) (tkd : Int32) (tkp : Int32) (tkr : Int32) (tkc : Int32) (rsF : Nat → Int32) (p1 : Int32) (p2 : Int32) (p3 : Int32) (p4 : Int32) (K : Int32 → Prop) (hg : g_X6_trust trc days tkk tkd tkp tkr tkc rsF p1 p2 p3 p4 K) : Met l yX6_trust wsX6_trust rmX6_trust (va_Pc [.ref a_x, .int p1, .int p2, .int p3, .int p4] (prW (dC, dI) kA sz [(a_x, .inr (6, [.ref a_pl, .ref a_lo, .ref a_sh, .long trc])), (a_pl, .inr (3, [.int days, .ref a_tk, .ref a_rs])), (a_tk, tkE tkk tkd tkp tkr tkc), (a_rs, .inl (kA, 41, .inl rsF))])) (va_Qi (fun (r : Int32) (u : Unit) => K r) (poW (dC, dI) (va_A [(a_x, .inr (6, [.ref a_pl, .ref a_lo, .ref a_sh, .long trc])), (a_pl, .inr (3, [.int days, .ref a_tk, .ref a_rs])), (a_tk, tkE tkk tkd tkp tkr tkc), (a_rs, .inl (kA, 41, .inl rsF))] sz) (fun (u : Unit) => [(a_x, .inr (6, [.ref a_pl, .ref a_lo, .ref a_sh, .long trc])), (a_pl, .inr (3, [.int days, .ref a_tk, .ref a_rs])), (a_tk, tkE tkk tkd tkp tkr tkc), (a_rs, .inl (kA, 41, .inl rsF))])) (va_A [(a_x, .inr (6, [.ref a_pl, .ref a_lo, .ref a_sh, .long trc])), (a_pl, .inr (3, [.int days, .ref a_tk, .ref a_rs])), (a_tk, tkE tkk tkd tkp tkr tkc), (a_rs, .inl (kA, 41, .inl rsF))] sz)) 0 0 (va_A [(a_x, .inr (6, [.ref a_pl, .ref a_lo, .ref a_sh, .long trc])), (a_pl, .inr (3, [.int days, .ref a_tk, .ref a_rs])), (a_tk, tkE tkk tkd tkp tkr tkc), (a_rs, .inl (kA, 41, .inl rsF))] sz) := by
  refine Met.ofW (cc := cX6_trust) (maxL := 6) (ret := (some .int)) (by decide) rfl ?_
  intro p e s m args below meth c s₁ B hml hv
  obtain ⟨hargs, hsz, hP, hK, hD0, hN⟩ := hv
  have hx := B.exec
  have hb := B.bytes
  have hr := B.returns
  have hts := atoms_spec (ws := wsX6_trust) B.pre
  have hown : s.vm.findClass RX6 = some m.cls := findClass_of_methodNamed B.named
  have hlocks := B.notSynchronized
  subst hsz
  have hD := hD0.self (sz := s.heap.size)
  generalize hAe : va_A [(a_x, .inr (6, [.ref a_pl, .ref a_lo, .ref a_sh, .long trc])), (a_pl, .inr (3, [.int days, .ref a_tk, .ref a_rs])), (a_tk, tkE tkk tkd tkp tkr tkc), (a_rs, .inl (kA, 41, .inl rsF))] s.heap.size = A at hD ⊢
  have hA : ∀ q : Nat, s.heap.size ≤ q → A q := fun q h => by rw [← hAe]; exact Or.inr h
  have hS : va_S A s.heap s.heap [] := va_S.rf
  obtain ⟨Q, hQ⟩ : ∃ Q : State → Prop, Q = MQ below (va_Qi (fun (r : Int32) (u : Unit) => K r) (poW (dC, dI) A (fun (u : Unit) => [(a_x, .inr (6, [.ref a_pl, .ref a_lo, .ref a_sh, .long trc])), (a_pl, .inr (3, [.int days, .ref a_tk, .ref a_rs])), (a_tk, tkE tkk tkd tkp tkr tkc), (a_rs, .inl (kA, 41, .inl rsF))])) A) args s 0 0 A := ⟨_, rfl⟩
  rw [← hQ]
  have hP : va_P (dC, dI) vwCl [(a_x, .inr (6, [.ref a_pl, .ref a_lo, .ref a_sh, .long trc])), (a_pl, .inr (3, [.int days, .ref a_tk, .ref a_rs])), (a_tk, tkE tkk tkd tkp tkr tkc), (a_rs, .inl (kA, 41, .inl rsF))] s.heap := hP
  refine en_ok hargs (Nat.le_of_ble_eq_true rfl) (fun ls hl => ?_)
  have hl : lv_has ls 6 [(0, .ref a_x), (1, .int p1), (2, .int p2), (3, .int p3), (4, .int p4)] := hl
  have h := hg
  unfold g_X6_trust at h
  refine lv_aload_n hx hb dX6_trust_0 rfl (lv_at hl 0 rfl) ?_
  refine va_get (D := (dC, dI)) (ci := 6) (v := .ref a_pl) (C := RX6) (T := TX6) (N := 4) hx hb hts (fun _ h => List.mem_cons_of_mem _ (List.mem_append_left _ (List.mem_append_left _ (List.mem_append_left _ (List.mem_append_left _ (List.mem_append_right _ h)))))) hown hK hP 0 rfl rfl 0 (by decide) (hts (.fieldLink RX6 10 "RentOrBuy" "plans" "LRentOrBuy$Plans;") (List.mem_cons_of_mem _ (List.mem_append_left _ (List.mem_append_left _ (List.mem_append_left _ (List.mem_append_left _ (List.mem_append_left _ (List.mem_of_getElem? (i := 0) rfl)))))))) (fun _ h9 => h9) rfl dX6_trust_1 ?_
  refine lv_iload_n hx hb dX6_trust_4 rfl (lv_at hl 1 rfl) ?_
  have hPc := hP.sub (ws' := [(a_pl, .inr (3, [.int days, .ref a_tk, .ref a_rs]))]) [1] rfl
  have hDc := hD.sub (ws' := [(a_pl, .inr (3, [.int days, .ref a_tk, .ref a_rs]))]) [1] (by decide) rfl
  refine fr_i (wr := [(a_x, .inr (6, [.ref a_pl, .ref a_lo, .ref a_sh, .long trc])), (a_tk, tkE tkk tkd tkp tkr tkc), (a_rs, .inl (kA, 41, .inl rsF))]) (WN := fun (u5 : Unit) => [(a_x, .inr (6, [.ref a_pl, .ref a_lo, .ref a_sh, .long trc])), (a_pl, .inr (3, [.int days, .ref a_tk, .ref a_rs])), (a_tk, tkE tkk tkd tkp tkr tkc), (a_rs, .inl (kA, 41, .inl rsF))]) (va_runV (As := [.int p1]) (rest := []) ⟨hx, hb, hml, hown, hts⟩ (c_X3_isEnd l dC dI kA a_pl a_tk a_rs s.heap.size days p1 _ h) (cwV 1 hts gX6_trust_X3_isEnd rfl rfl rfl (by decide +kernel) ⟨Nat.le_of_ble_eq_true rfl, Nat.le_of_ble_eq_true rfl⟩) (prW.preV (ci := 3) (q0 := 0) hPc hDc hK hN rfl rfl) rfl rfl hl.1 rfl (lv_room (Nat.le_of_ble_eq_true rfl)) dX6_trust_5 ⟨Nat.le_of_ble_eq_true rfl, Nat.le_of_ble_eq_true rfl⟩) hP hD hS hA [1] [0, 2, 3] rfl rfl (by decide) (by decide) [0, 3, 1, 2] (by decide) (fun _ => rfl) (fun r5 u5 H locs h hP hD hS => ?_)
  have hP : va_P (dC, dI) vwCl [(a_x, .inr (6, [.ref a_pl, .ref a_lo, .ref a_sh, .long trc])), (a_pl, .inr (3, [.int days, .ref a_tk, .ref a_rs])), (a_tk, tkE tkk tkd tkp tkr tkc), (a_rs, .inl (kA, 41, .inl rsF))] H := hP
  have hD : va_D A [(a_x, .inr (6, [.ref a_pl, .ref a_lo, .ref a_sh, .long trc])), (a_pl, .inr (3, [.int days, .ref a_tk, .ref a_rs])), (a_tk, tkE tkk tkd tkp tkr tkc), (a_rs, .inl (kA, 41, .inl rsF))] := hD
  refine lv_if_eq (tgt := 21) hx hb dX6_trust_8 (by decide) (fun c8 => ?_) (fun c8 => ?_)
  · replace h := h.1 c8
    refine lv_iconst (v := (-1 : Int32)) hx hb dX6_trust_21 (by decide +kernel) ?_
    rw [hQ]
    exact rt_i () hx hb hr hlocks h hP hD hS dX6_trust_22
  · replace h := h.2 c8
    refine lv_iload_n hx hb dX6_trust_11 rfl (lv_at hl 2 rfl) ?_
    refine lv_iconst (v := (1 : Int32)) hx hb dX6_trust_12 (by decide +kernel) ?_
    refine lv_bipush (v := (9 : Int32)) hx hb dX6_trust_13 (by decide +kernel) ?_
    have hPc := hP.sub (ws' := []) [] rfl
    have hDc := hD.sub (ws' := []) [] (by decide) rfl
    refine fr_i (wr := [(a_x, .inr (6, [.ref a_pl, .ref a_lo, .ref a_sh, .long trc])), (a_pl, .inr (3, [.int days, .ref a_tk, .ref a_rs])), (a_tk, tkE tkk tkd tkp tkr tkc), (a_rs, .inl (kA, 41, .inl rsF))]) (WN := fun (u15 : Unit) => [(a_x, .inr (6, [.ref a_pl, .ref a_lo, .ref a_sh, .long trc])), (a_pl, .inr (3, [.int days, .ref a_tk, .ref a_rs])), (a_tk, tkE tkk tkd tkp tkr tkc), (a_rs, .inl (kA, 41, .inl rsF))]) (va_runS (As := [.int p2, .int (1 : Int32), .int (9 : Int32)]) (rest := []) ⟨hx, hb, hml, hown, hts⟩ (c_X6_isWithin l dC dI kA H.size p2 (1 : Int32) (9 : Int32) _ h) (va_cwS 3 hts gX6_trust_X6_isWithin rfl rfl rfl (by decide +kernel) ⟨Nat.le_of_ble_eq_true rfl, Nat.le_of_ble_eq_true rfl⟩) (prW.preS hPc hDc hK hN) rfl rfl hl.1 rfl (lv_room (Nat.le_of_ble_eq_true rfl)) dX6_trust_15 ⟨Nat.le_of_ble_eq_true rfl, Nat.le_of_ble_eq_true rfl⟩) hP hD hS hA [] [0, 1, 2, 3] rfl rfl (by decide) (by decide) [0, 1, 2, 3] (by decide) (fun _ => rfl) (fun r15 u15 H locs h hP hD hS => ?_)
    have hP : va_P (dC, dI) vwCl [(a_x, .inr (6, [.ref a_pl, .ref a_lo, .ref a_sh, .long trc])), (a_pl, .inr (3, [.int days, .ref a_tk, .ref a_rs])), (a_tk, tkE tkk tkd tkp tkr tkc), (a_rs, .inl (kA, 41, .inl rsF))] H := hP
    have hD : va_D A [(a_x, .inr (6, [.ref a_pl, .ref a_lo, .ref a_sh, .long trc])), (a_pl, .inr (3, [.int days, .ref a_tk, .ref a_rs])), (a_tk, tkE tkk tkd tkp tkr tkc), (a_rs, .inl (kA, 41, .inl rsF))] := hD
    refine lv_if_ne (tgt := 23) hx hb dX6_trust_18 (by decide) (fun c18 => ?_) (fun c18 => ?_)
    · replace h := h.1 c18
      refine lv_iload_n hx hb dX6_trust_23 rfl (lv_at hl 3 rfl) ?_
      refine lv_iconst (v := (0 : Int32)) hx hb dX6_trust_24 (by decide +kernel) ?_
      refine lv_iconst (v := (1 : Int32)) hx hb dX6_trust_25 (by decide +kernel) ?_
      have hPc := hP.sub (ws' := []) [] rfl
      have hDc := hD.sub (ws' := []) [] (by decide) rfl
      refine fr_i (wr := [(a_x, .inr (6, [.ref a_pl, .ref a_lo, .ref a_sh, .long trc])), (a_pl, .inr (3, [.int days, .ref a_tk, .ref a_rs])), (a_tk, tkE tkk tkd tkp tkr tkc), (a_rs, .inl (kA, 41, .inl rsF))]) (WN := fun (u26 : Unit) => [(a_x, .inr (6, [.ref a_pl, .ref a_lo, .ref a_sh, .long trc])), (a_pl, .inr (3, [.int days, .ref a_tk, .ref a_rs])), (a_tk, tkE tkk tkd tkp tkr tkc), (a_rs, .inl (kA, 41, .inl rsF))]) (va_runS (As := [.int p3, .int (0 : Int32), .int (1 : Int32)]) (rest := []) ⟨hx, hb, hml, hown, hts⟩ (c_X6_isWithin l dC dI kA H.size p3 (0 : Int32) (1 : Int32) _ h) (va_cwS 3 hts gX6_trust_X6_isWithin rfl rfl rfl (by decide +kernel) ⟨Nat.le_of_ble_eq_true rfl, Nat.le_of_ble_eq_true rfl⟩) (prW.preS hPc hDc hK hN) rfl rfl hl.1 rfl (lv_room (Nat.le_of_ble_eq_true rfl)) dX6_trust_26 ⟨Nat.le_of_ble_eq_true rfl, Nat.le_of_ble_eq_true rfl⟩) hP hD hS hA [] [0, 1, 2, 3] rfl rfl (by decide) (by decide) [0, 1, 2, 3] (by decide) (fun _ => rfl) (fun r26 u26 H locs h hP hD hS => ?_)
      have hP : va_P (dC, dI) vwCl [(a_x, .inr (6, [.ref a_pl, .ref a_lo, .ref a_sh, .long trc])), (a_pl, .inr (3, [.int days, .ref a_tk, .ref a_rs])), (a_tk, tkE tkk tkd tkp tkr tkc), (a_rs, .inl (kA, 41, .inl rsF))] H := hP
      have hD : va_D A [(a_x, .inr (6, [.ref a_pl, .ref a_lo, .ref a_sh, .long trc])), (a_pl, .inr (3, [.int days, .ref a_tk, .ref a_rs])), (a_tk, tkE tkk tkd tkp tkr tkc), (a_rs, .inl (kA, 41, .inl rsF))] := hD
      refine lv_if_eq (tgt := 42) hx hb dX6_trust_29 (by decide) (fun c29 => ?_) (fun c29 => ?_)
      · replace h := h.1 c29
        refine lv_iconst (v := (-1 : Int32)) hx hb dX6_trust_42 (by decide +kernel) ?_
        rw [hQ]
        exact rt_i () hx hb hr hlocks h hP hD hS dX6_trust_43
      · replace h := h.2 c29
        refine lv_iload hx hb dX6_trust_32 (lv_at hl 4 rfl) ?_
        refine lv_iconst (v := (0 : Int32)) hx hb dX6_trust_34 (by decide +kernel) ?_
        refine lv_iconst (v := (1 : Int32)) hx hb dX6_trust_35 (by decide +kernel) ?_
        have hPc := hP.sub (ws' := []) [] rfl
        have hDc := hD.sub (ws' := []) [] (by decide) rfl
        refine fr_i (wr := [(a_x, .inr (6, [.ref a_pl, .ref a_lo, .ref a_sh, .long trc])), (a_pl, .inr (3, [.int days, .ref a_tk, .ref a_rs])), (a_tk, tkE tkk tkd tkp tkr tkc), (a_rs, .inl (kA, 41, .inl rsF))]) (WN := fun (u36 : Unit) => [(a_x, .inr (6, [.ref a_pl, .ref a_lo, .ref a_sh, .long trc])), (a_pl, .inr (3, [.int days, .ref a_tk, .ref a_rs])), (a_tk, tkE tkk tkd tkp tkr tkc), (a_rs, .inl (kA, 41, .inl rsF))]) (va_runS (As := [.int p4, .int (0 : Int32), .int (1 : Int32)]) (rest := []) ⟨hx, hb, hml, hown, hts⟩ (c_X6_isWithin l dC dI kA H.size p4 (0 : Int32) (1 : Int32) _ h) (va_cwS 3 hts gX6_trust_X6_isWithin rfl rfl rfl (by decide +kernel) ⟨Nat.le_of_ble_eq_true rfl, Nat.le_of_ble_eq_true rfl⟩) (prW.preS hPc hDc hK hN) rfl rfl hl.1 rfl (lv_room (Nat.le_of_ble_eq_true rfl)) dX6_trust_36 ⟨Nat.le_of_ble_eq_true rfl, Nat.le_of_ble_eq_true rfl⟩) hP hD hS hA [] [0, 1, 2, 3] rfl rfl (by decide) (by decide) [0, 1, 2, 3] (by decide) (fun _ => rfl) (fun r36 u36 H locs h hP hD hS => ?_)
        have hP : va_P (dC, dI) vwCl [(a_x, .inr (6, [.ref a_pl, .ref a_lo, .ref a_sh, .long trc])), (a_pl, .inr (3, [.int days, .ref a_tk, .ref a_rs])), (a_tk, tkE tkk tkd tkp tkr tkc), (a_rs, .inl (kA, 41, .inl rsF))] H := hP
        have hD : va_D A [(a_x, .inr (6, [.ref a_pl, .ref a_lo, .ref a_sh, .long trc])), (a_pl, .inr (3, [.int days, .ref a_tk, .ref a_rs])), (a_tk, tkE tkk tkd tkp tkr tkc), (a_rs, .inl (kA, 41, .inl rsF))] := hD
        refine lv_if_ne (tgt := 44) hx hb dX6_trust_39 (by decide) (fun c39 => ?_) (fun c39 => ?_)
        · replace h := h.1 c39
          refine lv_aload_n hx hb dX6_trust_44 rfl (lv_at hl 0 rfl) ?_
          refine va_get (D := (dC, dI)) (ci := 6) (v := .ref a_pl) (C := RX6) (T := TX6) (N := 4) hx hb hts (fun _ h => List.mem_cons_of_mem _ (List.mem_append_left _ (List.mem_append_left _ (List.mem_append_left _ (List.mem_append_left _ (List.mem_append_right _ h)))))) hown hK hP 0 rfl rfl 0 (by decide) (hts (.fieldLink RX6 10 "RentOrBuy" "plans" "LRentOrBuy$Plans;") (List.mem_cons_of_mem _ (List.mem_append_left _ (List.mem_append_left _ (List.mem_append_left _ (List.mem_append_left _ (List.mem_append_left _ (List.mem_of_getElem? (i := 0) rfl)))))))) (fun _ h9 => h9) rfl dX6_trust_45 ?_
          refine lv_iload_n hx hb dX6_trust_48 rfl (lv_at hl 1 rfl) ?_
          refine lv_iload_n hx hb dX6_trust_49 rfl (lv_at hl 2 rfl) ?_
          have hPc := hP.sub (ws' := [(a_pl, .inr (3, [.int days, .ref a_tk, .ref a_rs])), (a_tk, tkE tkk tkd tkp tkr tkc), (a_rs, .inl (kA, 41, .inl rsF))]) [1, 2, 3] rfl
          have hDc := hD.sub (ws' := [(a_pl, .inr (3, [.int days, .ref a_tk, .ref a_rs])), (a_tk, tkE tkk tkd tkp tkr tkc), (a_rs, .inl (kA, 41, .inl rsF))]) [1, 2, 3] (by decide) rfl
          refine fr_i (wr := [(a_x, .inr (6, [.ref a_pl, .ref a_lo, .ref a_sh, .long trc]))]) (WN := fun (u50 : Unit) => [(a_x, .inr (6, [.ref a_pl, .ref a_lo, .ref a_sh, .long trc])), (a_pl, .inr (3, [.int days, .ref a_tk, .ref a_rs])), (a_tk, tkE tkk tkd tkp tkr tkc), (a_rs, .inl (kA, 41, .inl rsF))]) (va_runV (As := [.int p1, .int p2]) (rest := []) ⟨hx, hb, hml, hown, hts⟩ (c_X3_planByGuess l dC dI kA a_pl a_tk a_rs H.size days tkk tkd tkp tkr tkc rsF p1 p2 _ h) (cwV 2 hts gX6_trust_X3_planByGuess rfl rfl rfl (by decide +kernel) ⟨Nat.le_of_ble_eq_true rfl, Nat.le_of_ble_eq_true rfl⟩) (prW.preV (ci := 3) (q0 := 0) hPc hDc hK hN rfl rfl) rfl rfl hl.1 rfl (lv_room (Nat.le_of_ble_eq_true rfl)) dX6_trust_50 ⟨Nat.le_of_ble_eq_true rfl, Nat.le_of_ble_eq_true rfl⟩) hP hD hS hA [1, 2, 3] [0] rfl rfl (by decide) (by decide) [0, 1, 2, 3] (by decide) (fun _ => rfl) (fun r50 u50 H locs h hP hD hS => ?_)
          have hP : va_P (dC, dI) vwCl [(a_x, .inr (6, [.ref a_pl, .ref a_lo, .ref a_sh, .long trc])), (a_pl, .inr (3, [.int days, .ref a_tk, .ref a_rs])), (a_tk, tkE tkk tkd tkp tkr tkc), (a_rs, .inl (kA, 41, .inl rsF))] H := hP
          have hD : va_D A [(a_x, .inr (6, [.ref a_pl, .ref a_lo, .ref a_sh, .long trc])), (a_pl, .inr (3, [.int days, .ref a_tk, .ref a_rs])), (a_tk, tkE tkk tkd tkp tkr tkc), (a_rs, .inl (kA, 41, .inl rsF))] := hD
          refine lv_istore (lv' := [(5, .int r50), (0, .ref a_x), (1, .int p1), (2, .int p2), (3, .int p3), (4, .int p4)]) hx hb dX6_trust_53 hl (by decide) rfl (fun ls hl => ?_)
          refine lv_aload_n hx hb dX6_trust_55 rfl (lv_at hl 1 rfl) ?_
          refine va_get (D := (dC, dI)) (ci := 6) (v := .ref a_pl) (C := RX6) (T := TX6) (N := 4) hx hb hts (fun _ h => List.mem_cons_of_mem _ (List.mem_append_left _ (List.mem_append_left _ (List.mem_append_left _ (List.mem_append_left _ (List.mem_append_right _ h)))))) hown hK hP 0 rfl rfl 0 (by decide) (hts (.fieldLink RX6 10 "RentOrBuy" "plans" "LRentOrBuy$Plans;") (List.mem_cons_of_mem _ (List.mem_append_left _ (List.mem_append_left _ (List.mem_append_left _ (List.mem_append_left _ (List.mem_append_left _ (List.mem_of_getElem? (i := 0) rfl)))))))) (fun _ h9 => h9) rfl dX6_trust_56 ?_
          refine lv_iload hx hb dX6_trust_59 (lv_at hl 0 rfl) ?_
          refine lv_iload_n hx hb dX6_trust_61 rfl (lv_at hl 4 rfl) ?_
          obtain ⟨J78, hR78, h⟩ := h
          have hJ78 : ∀ (t0_78 : Int32), J78 t0_78 → ∀ (H : Heap) (locs : List Loc) (ls : Array Slot), va_P (dC, dI) vwCl [(a_x, .inr (6, [.ref a_pl, .ref a_lo, .ref a_sh, .long trc])), (a_pl, .inr (3, [.int days, .ref a_tk, .ref a_rs])), (a_tk, tkE tkk tkd tkp tkr tkc), (a_rs, .inl (kA, 41, .inl rsF))] H → va_D A [(a_x, .inr (6, [.ref a_pl, .ref a_lo, .ref a_sh, .long trc])), (a_pl, .inr (3, [.int days, .ref a_tk, .ref a_rs])), (a_tk, tkE tkk tkd tkp tkr tkc), (a_rs, .inl (kA, 41, .inl rsF))] → va_S A s.heap H locs → lv_has ls 6 [(4, .int p4)] → W p l e (headSpec wsX6_trust rmX6_trust).room s m args below meth c H locs 0 0 Q (F0 m 78 ls [.int t0_78, .int r50, .ref a_pl]) := by
            intro t0_78 h H locs ls hP hD hS hl
            replace h := hR78 t0_78 h
            refine lv_iload hx hb dX6_trust_78 (lv_at hl 0 rfl) ?_
            have hPc := hP.sub (ws' := [(a_pl, .inr (3, [.int days, .ref a_tk, .ref a_rs])), (a_tk, tkE tkk tkd tkp tkr tkc), (a_rs, .inl (kA, 41, .inl rsF))]) [1, 2, 3] rfl
            have hDc := hD.sub (ws' := [(a_pl, .inr (3, [.int days, .ref a_tk, .ref a_rs])), (a_tk, tkE tkk tkd tkp tkr tkc), (a_rs, .inl (kA, 41, .inl rsF))]) [1, 2, 3] (by decide) rfl
            refine fr_i (wr := [(a_x, .inr (6, [.ref a_pl, .ref a_lo, .ref a_sh, .long trc]))]) (WN := fun (u80 : Unit) => [(a_x, .inr (6, [.ref a_pl, .ref a_lo, .ref a_sh, .long trc])), (a_pl, .inr (3, [.int days, .ref a_tk, .ref a_rs])), (a_tk, tkE tkk tkd tkp tkr tkc), (a_rs, .inl (kA, 41, .inl rsF))]) (va_runV (As := [.int r50, .int t0_78, .int p4]) (rest := []) ⟨hx, hb, hml, hown, hts⟩ (c_X3_ratioPart l dC dI kA a_pl a_tk a_rs H.size days tkk tkd tkp tkr tkc rsF r50 t0_78 p4 _ h) (cwV 3 hts gX6_trust_X3_ratioPart rfl rfl rfl (by decide +kernel) ⟨Nat.le_of_ble_eq_true rfl, Nat.le_of_ble_eq_true rfl⟩) (prW.preV (ci := 3) (q0 := 0) hPc hDc hK hN rfl rfl) rfl rfl hl.1 rfl (lv_room (Nat.le_of_ble_eq_true rfl)) dX6_trust_80 ⟨Nat.le_of_ble_eq_true rfl, Nat.le_of_ble_eq_true rfl⟩) hP hD hS hA [1, 2, 3] [0] rfl rfl (by decide) (by decide) [0, 1, 2, 3] (by decide) (fun _ => rfl) (fun r80 u80 H locs h hP hD hS => ?_)
            have hP : va_P (dC, dI) vwCl [(a_x, .inr (6, [.ref a_pl, .ref a_lo, .ref a_sh, .long trc])), (a_pl, .inr (3, [.int days, .ref a_tk, .ref a_rs])), (a_tk, tkE tkk tkd tkp tkr tkc), (a_rs, .inl (kA, 41, .inl rsF))] H := hP
            have hD : va_D A [(a_x, .inr (6, [.ref a_pl, .ref a_lo, .ref a_sh, .long trc])), (a_pl, .inr (3, [.int days, .ref a_tk, .ref a_rs])), (a_tk, tkE tkk tkd tkp tkr tkc), (a_rs, .inl (kA, 41, .inl rsF))] := hD
            rw [hQ]
            exact rt_i () hx hb hr hlocks h hP hD hS dX6_trust_83
          refine lv_if_ne (tgt := 69) hx hb dX6_trust_62 (by decide) (fun c62 => ?_) (fun c62 => ?_)
          · replace h := h.1 c62
            refine lv_aload_n hx hb dX6_trust_69 rfl (lv_at hl 1 rfl) ?_
            refine va_get (D := (dC, dI)) (ci := 6) (v := .ref a_pl) (C := RX6) (T := TX6) (N := 4) hx hb hts (fun _ h => List.mem_cons_of_mem _ (List.mem_append_left _ (List.mem_append_left _ (List.mem_append_left _ (List.mem_append_left _ (List.mem_append_right _ h)))))) hown hK hP 0 rfl rfl 0 (by decide) (hts (.fieldLink RX6 10 "RentOrBuy" "plans" "LRentOrBuy$Plans;") (List.mem_cons_of_mem _ (List.mem_append_left _ (List.mem_append_left _ (List.mem_append_left _ (List.mem_append_left _ (List.mem_append_left _ (List.mem_of_getElem? (i := 0) rfl)))))))) (fun _ h9 => h9) rfl dX6_trust_70 ?_
            refine lv_iload hx hb dX6_trust_73 (lv_at hl 0 rfl) ?_
            have hPc := hP.sub (ws' := [(a_pl, .inr (3, [.int days, .ref a_tk, .ref a_rs])), (a_tk, tkE tkk tkd tkp tkr tkc), (a_rs, .inl (kA, 41, .inl rsF))]) [1, 2, 3] rfl
            have hDc := hD.sub (ws' := [(a_pl, .inr (3, [.int days, .ref a_tk, .ref a_rs])), (a_tk, tkE tkk tkd tkp tkr tkc), (a_rs, .inl (kA, 41, .inl rsF))]) [1, 2, 3] (by decide) rfl
            refine fr_i (wr := [(a_x, .inr (6, [.ref a_pl, .ref a_lo, .ref a_sh, .long trc]))]) (WN := fun (u75 : Unit) => [(a_x, .inr (6, [.ref a_pl, .ref a_lo, .ref a_sh, .long trc])), (a_pl, .inr (3, [.int days, .ref a_tk, .ref a_rs])), (a_tk, tkE tkk tkd tkp tkr tkc), (a_rs, .inl (kA, 41, .inl rsF))]) (va_runV (As := [.int r50]) (rest := [.int r50, .ref a_pl]) ⟨hx, hb, hml, hown, hts⟩ (c_X3_worstEnd l dC dI kA a_pl a_tk a_rs H.size days tkk tkd tkp tkr tkc rsF r50 _ h) (cwV 1 hts gX6_trust_X3_worstEnd rfl rfl rfl (by decide +kernel) ⟨Nat.le_of_ble_eq_true rfl, Nat.le_of_ble_eq_true rfl⟩) (prW.preV (ci := 3) (q0 := 0) hPc hDc hK hN rfl rfl) rfl rfl hl.1 rfl (lv_room (Nat.le_of_ble_eq_true rfl)) dX6_trust_75 ⟨Nat.le_of_ble_eq_true rfl, Nat.le_of_ble_eq_true rfl⟩) hP hD hS hA [1, 2, 3] [0] rfl rfl (by decide) (by decide) [0, 1, 2, 3] (by decide) (fun _ => rfl) (fun r75 u75 H locs h hP hD hS => ?_)
            have hP : va_P (dC, dI) vwCl [(a_x, .inr (6, [.ref a_pl, .ref a_lo, .ref a_sh, .long trc])), (a_pl, .inr (3, [.int days, .ref a_tk, .ref a_rs])), (a_tk, tkE tkk tkd tkp tkr tkc), (a_rs, .inl (kA, 41, .inl rsF))] H := hP
            have hD : va_D A [(a_x, .inr (6, [.ref a_pl, .ref a_lo, .ref a_sh, .long trc])), (a_pl, .inr (3, [.int days, .ref a_tk, .ref a_rs])), (a_tk, tkE tkk tkd tkp tkr tkc), (a_rs, .inl (kA, 41, .inl rsF))] := hD
            exact hJ78 r75 h _ _ _ hP hD hS (lv_sub hl [5] rfl)
          · replace h := h.2 c62
            refine lv_iload_n hx hb dX6_trust_65 rfl (lv_at hl 2 rfl) ?_
            refine lv_goto (tgt := 78) hx hb dX6_trust_66 (by decide) ?_
            exact hJ78 p1 h _ _ _ hP hD hS (lv_sub hl [5] rfl)
        · replace h := h.2 c39
          refine lv_iconst (v := (-1 : Int32)) hx hb dX6_trust_42 (by decide +kernel) ?_
          rw [hQ]
          exact rt_i () hx hb hr hlocks h hP hD hS dX6_trust_43
    · replace h := h.2 c18
      refine lv_iconst (v := (-1 : Int32)) hx hb dX6_trust_21 (by decide +kernel) ?_
      rw [hQ]
      exact rt_i () hx hb hr hlocks h hP hD hS dX6_trust_22

/-- RentOrBuyModel.placeIn -/
def rmX7_placeIn : Room := { frames := 0, cells := 0, slots := 0, locals := 0 }
set_option maxHeartbeats 4000000 in
set_option maxRecDepth 100000 in
theorem c_X7_placeIn (l : Launch) (dC : Nat → ClassId) (dI : Nat → Nat → Nat) (kA : ClassId) (a_m a_mo a_mp a_me a_mq a_mr a_ml a_mt a_mf : Nat) (sz : Nat) (mkd : Int32) (mrt : Int32) (mri : Int32) (mca : Int32) (mpr : Int32) (men : Int32) (mth : Int32) (mrq : Int32) (mtr : Int64) (mos : Int32) (moF : Nat → Int32) (p1 : Int32) (p2 : Int32) (K : Int32 → Prop) (hg : g_X7_placeIn mkd mrt mri mca mpr men mth mrq mtr mos moF p1 p2 K) : Met l yX7_placeIn wsX7_placeIn rmX7_placeIn (va_Pc [.ref a_m, .int p1, .int p2] (prW (dC, dI) kA sz [(a_m, .inr (7, [.int mkd, .int mrt, .int mri, .int mca, .int mpr, .int men, .ref a_mp, .ref a_me, .int mth, .int mrq, .ref a_mq, .long mtr, .ref a_mr, .ref a_mo, .int mos, .ref a_ml, .ref a_mt, .ref a_mf])), (a_mo, .inl (kA, 96, .inl moF))])) (va_Qi (fun (r : Int32) (u : Unit) => K r) (poW (dC, dI) (va_A [(a_m, .inr (7, [.int mkd, .int mrt, .int mri, .int mca, .int mpr, .int men, .ref a_mp, .ref a_me, .int mth, .int mrq, .ref a_mq, .long mtr, .ref a_mr, .ref a_mo, .int mos, .ref a_ml, .ref a_mt, .ref a_mf])), (a_mo, .inl (kA, 96, .inl moF))] sz) (fun (u : Unit) => [(a_m, .inr (7, [.int mkd, .int mrt, .int mri, .int mca, .int mpr, .int men, .ref a_mp, .ref a_me, .int mth, .int mrq, .ref a_mq, .long mtr, .ref a_mr, .ref a_mo, .int mos, .ref a_ml, .ref a_mt, .ref a_mf])), (a_mo, .inl (kA, 96, .inl moF))])) (va_A [(a_m, .inr (7, [.int mkd, .int mrt, .int mri, .int mca, .int mpr, .int men, .ref a_mp, .ref a_me, .int mth, .int mrq, .ref a_mq, .long mtr, .ref a_mr, .ref a_mo, .int mos, .ref a_ml, .ref a_mt, .ref a_mf])), (a_mo, .inl (kA, 96, .inl moF))] sz)) 0 0 (va_A [(a_m, .inr (7, [.int mkd, .int mrt, .int mri, .int mca, .int mpr, .int men, .ref a_mp, .ref a_me, .int mth, .int mrq, .ref a_mq, .long mtr, .ref a_mr, .ref a_mo, .int mos, .ref a_ml, .ref a_mt, .ref a_mf])), (a_mo, .inl (kA, 96, .inl moF))] sz) := by
  refine Met.ofW (cc := cX7_placeIn) (maxL := 4) (ret := (some .int)) (by decide) rfl ?_
  intro p e s m args below meth c s₁ B hml hv
  obtain ⟨hargs, hsz, hP, hK, hD0, hN⟩ := hv
  have hx := B.exec
  have hb := B.bytes
  have hr := B.returns
  have hts := atoms_spec (ws := wsX7_placeIn) B.pre
  have hown : s.vm.findClass RX7 = some m.cls := findClass_of_methodNamed B.named
  have hlocks := B.notSynchronized
  subst hsz
  have hD := hD0.self (sz := s.heap.size)
  generalize hAe : va_A [(a_m, .inr (7, [.int mkd, .int mrt, .int mri, .int mca, .int mpr, .int men, .ref a_mp, .ref a_me, .int mth, .int mrq, .ref a_mq, .long mtr, .ref a_mr, .ref a_mo, .int mos, .ref a_ml, .ref a_mt, .ref a_mf])), (a_mo, .inl (kA, 96, .inl moF))] s.heap.size = A at hD ⊢
  have hA : ∀ q : Nat, s.heap.size ≤ q → A q := fun q h => by rw [← hAe]; exact Or.inr h
  have hS : va_S A s.heap s.heap [] := va_S.rf
  obtain ⟨Q, hQ⟩ : ∃ Q : State → Prop, Q = MQ below (va_Qi (fun (r : Int32) (u : Unit) => K r) (poW (dC, dI) A (fun (u : Unit) => [(a_m, .inr (7, [.int mkd, .int mrt, .int mri, .int mca, .int mpr, .int men, .ref a_mp, .ref a_me, .int mth, .int mrq, .ref a_mq, .long mtr, .ref a_mr, .ref a_mo, .int mos, .ref a_ml, .ref a_mt, .ref a_mf])), (a_mo, .inl (kA, 96, .inl moF))])) A) args s 0 0 A := ⟨_, rfl⟩
  rw [← hQ]
  have hP : va_P (dC, dI) vwCl [(a_m, .inr (7, [.int mkd, .int mrt, .int mri, .int mca, .int mpr, .int men, .ref a_mp, .ref a_me, .int mth, .int mrq, .ref a_mq, .long mtr, .ref a_mr, .ref a_mo, .int mos, .ref a_ml, .ref a_mt, .ref a_mf])), (a_mo, .inl (kA, 96, .inl moF))] s.heap := hP
  refine en_ok hargs (Nat.le_of_ble_eq_true rfl) (fun ls hl => ?_)
  have hl : lv_has ls 4 [(0, .ref a_m), (1, .int p1), (2, .int p2)] := hl
  have h := hg
  unfold g_X7_placeIn at h
  refine lv_iconst (v := (0 : Int32)) hx hb dX7_placeIn_0 (by decide +kernel) ?_
  refine lv_istore_n (lv' := [(3, .int (0 : Int32)), (0, .ref a_m), (1, .int p1), (2, .int p2)]) hx hb dX7_placeIn_1 rfl hl (by decide) rfl (fun ls hl => ?_)
  obtain ⟨J2, ⟨n2, h⟩, hz2, hs2⟩ := h
  have hL2 : ∀ (n2 : Nat) (v3_2 : Int32), J2 n2 v3_2 → ∀ (H : Heap) (locs : List Loc) (ls : Array Slot), va_P (dC, dI) vwCl [(a_m, .inr (7, [.int mkd, .int mrt, .int mri, .int mca, .int mpr, .int men, .ref a_mp, .ref a_me, .int mth, .int mrq, .ref a_mq, .long mtr, .ref a_mr, .ref a_mo, .int mos, .ref a_ml, .ref a_mt, .ref a_mf])), (a_mo, .inl (kA, 96, .inl moF))] H → va_D A [(a_m, .inr (7, [.int mkd, .int mrt, .int mri, .int mca, .int mpr, .int men, .ref a_mp, .ref a_me, .int mth, .int mrq, .ref a_mq, .long mtr, .ref a_mr, .ref a_mo, .int mos, .ref a_ml, .ref a_mt, .ref a_mf])), (a_mo, .inl (kA, 96, .inl moF))] → va_S A s.heap H locs → lv_has ls 4 [(0, .ref a_m), (1, .int p1), (2, .int p2), (3, .int v3_2)] → W p l e (headSpec wsX7_placeIn rmX7_placeIn).room s m args below meth c H locs 0 0 Q (F0 m 2 ls []) := by
    intro n2
    induction n2 with
    | zero => intro v3_2 h; exact absurd h (hz2 v3_2)
    | succ n2 ih2 =>
      intro v3_2 h H locs ls hP hD hS hl
      replace h := hs2 n2 v3_2 h
      refine lv_aload_n hx hb dX7_placeIn_2 rfl (lv_at hl 0 rfl) ?_
      refine va_get (D := (dC, dI)) (ci := 7) (v := .ref a_mo) (C := RX7) (T := TX7) (N := 18) hx hb hts (fun _ h => List.mem_cons_of_mem _ (List.mem_append_right _ h)) hown hK hP 0 rfl rfl 13 (by decide) (hts (.fieldLink RX7 38 "RentOrBuyModel" "order" "[I") (List.mem_cons_of_mem _ (List.mem_append_left _ (List.mem_of_getElem? (i := 0) rfl)))) (fun _ h9 => h9) rfl dX7_placeIn_3 ?_
      refine lv_iconst (v := (4 : Int32)) hx hb dX7_placeIn_6 (by decide +kernel) ?_
      refine lv_iload_n hx hb dX7_placeIn_7 rfl (lv_at hl 1 rfl) ?_
      refine lv_imul hx hb dX7_placeIn_8 ?_
      refine lv_iload_n hx hb dX7_placeIn_9 rfl (lv_at hl 3 rfl) ?_
      refine lv_iadd hx hb dX7_placeIn_10 ?_
      obtain ⟨hi11, h⟩ := h
      refine va_iald hx hb hK hP 1 0 rfl rfl hi11 dX7_placeIn_11 ?_
      refine lv_iload_n hx hb dX7_placeIn_12 rfl (lv_at hl 2 rfl) ?_
      refine lv_icmp_eq (tgt := 22) hx hb dX7_placeIn_13 (by decide) (fun c13 => ?_) (fun c13 => ?_)
      · replace h := h.1 c13
        refine lv_iload_n hx hb dX7_placeIn_22 rfl (lv_at hl 3 rfl) ?_
        rw [hQ]
        exact rt_i () hx hb hr hlocks h hP hD hS dX7_placeIn_23
      · replace h := h.2 c13
        refine lv_iinc (v := (v3_2 + (1 : Int32))) (lv' := [(3, .int (v3_2 + (1 : Int32))), (0, .ref a_m), (1, .int p1), (2, .int p2)]) hx hb dX7_placeIn_16 hl (k := 3) rfl (by rfl) (by decide) rfl (fun ls hl => ?_)
        refine lv_goto (tgt := 2) hx hb dX7_placeIn_19 (by decide) ?_
        exact ih2 (v3_2 + (1 : Int32)) h _ _ _ hP hD hS (lv_sub hl [1, 2, 3, 0] rfl)
  exact hL2 n2 (0 : Int32) h _ _ _ hP hD hS (lv_sub hl [1, 2, 3, 0] rfl)

