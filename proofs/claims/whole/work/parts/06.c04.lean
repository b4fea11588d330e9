/-- RentOrBuyModel.apart -/
def rmX7_apart : Room := { frames := 1, cells := 0, slots := 0, locals := 23 }
set_option maxHeartbeats 4000000 in
set_option maxRecDepth 100000 in
theorem c_X7_apart (l : Launch) (dC : Nat → ClassId) (dI : Nat → Nat → Nat) (kA : ClassId) (a_m a_mo a_mp a_me a_mq a_mr a_ml a_mt a_mf : Nat) (sz : Nat) (mkd : Int32) (mrt : Int32) (mri : Int32) (mca : Int32) (mpr : Int32) (men : Int32) (mth : Int32) (mrq : Int32) (mtr : Int64) (mos : Int32) (moF : Nat → Int32) (p1 : Int32) (p2 : Int32) (K : Int32 → Prop) (hg : g_X7_apart mkd mrt mri mca mpr men mth mrq mtr mos moF p1 p2 K) : Met l yX7_apart wsX7_apart rmX7_apart (va_Pc [.ref a_m, .int p1, .int p2] (prW (dC, dI) kA sz [(a_m, .inr (7, [.int mkd, .int mrt, .int mri, .int mca, .int mpr, .int men, .ref a_mp, .ref a_me, .int mth, .int mrq, .ref a_mq, .long mtr, .ref a_mr, .ref a_mo, .int mos, .ref a_ml, .ref a_mt, .ref a_mf])), (a_mo, .inl (kA, 96, .inl moF))])) (va_Qi (fun (r : Int32) (u : Unit) => K r) (poW (dC, dI) (va_A [(a_m, .inr (7, [.int mkd, .int mrt, .int mri, .int mca, .int mpr, .int men, .ref a_mp, .ref a_me, .int mth, .int mrq, .ref a_mq, .long mtr, .ref a_mr, .ref a_mo, .int mos, .ref a_ml, .ref a_mt, .ref a_mf])), (a_mo, .inl (kA, 96, .inl moF))] sz) (fun (u : Unit) => [(a_m, .inr (7, [.int mkd, .int mrt, .int mri, .int mca, .int mpr, .int men, .ref a_mp, .ref a_me, .int mth, .int mrq, .ref a_mq, .long mtr, .ref a_mr, .ref a_mo, .int mos, .ref a_ml, .ref a_mt, .ref a_mf])), (a_mo, .inl (kA, 96, .inl moF))])) (va_A [(a_m, .inr (7, [.int mkd, .int mrt, .int mri, .int mca, .int mpr, .int men, .ref a_mp, .ref a_me, .int mth, .int mrq, .ref a_mq, .long mtr, .ref a_mr, .ref a_mo, .int mos, .ref a_ml, .ref a_mt, .ref a_mf])), (a_mo, .inl (kA, 96, .inl moF))] sz)) 0 0 (va_A [(a_m, .inr (7, [.int mkd, .int mrt, .int mri, .int mca, .int mpr, .int men, .ref a_mp, .ref a_me, .int mth, .int mrq, .ref a_mq, .long mtr, .ref a_mr, .ref a_mo, .int mos, .ref a_ml, .ref a_mt, .ref a_mf])), (a_mo, .inl (kA, 96, .inl moF))] sz) := by
  refine Met.ofW (cc := cX7_apart) (maxL := 6) (ret := (some .int)) (by decide) rfl ?_
  intro p e s m args below meth c s₁ B hml hv
  obtain ⟨hargs, hsz, hP, hK, hD0, hN⟩ := hv
  have hx := B.exec
  have hb := B.bytes
  have hr := B.returns
  have hts := atoms_spec (ws := wsX7_apart) B.pre
  have hown : s.vm.findClass RX7 = some m.cls := findClass_of_methodNamed B.named
  have hlocks := B.notSynchronized
  subst hsz
  have hD := hD0.self (sz := s.heap.size)
  generalize hAe : va_A [(a_m, .inr (7, [.int mkd, .int mrt, .int mri, .int mca, .int mpr, .int men, .ref a_mp, .ref a_me, .int mth, .int mrq, .ref a_mq, .long mtr, .ref a_mr, .ref a_mo, .int mos, .ref a_ml, .ref a_mt, .ref a_mf])), (a_mo, .inl (kA, 96, .inl moF))] s.heap.size = A at hD ⊢
  have hA : ∀ q : Nat, s.heap.size ≤ q → A q := fun q h => by rw [← hAe]; exact Or.inr h
  have hS : va_S A s.heap s.heap [] := va_S.rf
  obtain ⟨Q, hQ⟩ : ∃ Q : State → Prop, Q = MQ below (va_Qi (fun (r : Int32) (u : Unit) => K r) (poW (dC, dI) A (fun (u : Unit) => [(a_m, .inr (7, [.int mkd, .int mrt, .int mri, .int mca, .int mpr, .int men, .ref a_mp, .ref a_me, .int mth, .int mrq, .ref a_mq, .long mtr, .ref a_mr, .ref a_mo, .int mos, .ref a_ml, .ref a_mt, .ref a_mf])), (a_mo, .inl (kA, 96, .inl moF))])) A) args s 0 0 A := ⟨_, rfl⟩
  rw [← hQ]
  have hP : va_P (dC, dI) vwCl [(a_m, .inr (7, [.int mkd, .int mrt, .int mri, .int mca, .int mpr, .int men, .ref a_mp, .ref a_me, .int mth, .int mrq, .ref a_mq, .long mtr, .ref a_mr, .ref a_mo, .int mos, .ref a_ml, .ref a_mt, .ref a_mf])), (a_mo, .inl (kA, 96, .inl moF))] s.heap := hP
  refine en_ok hargs (Nat.le_of_ble_eq_true rfl) (fun ls hl => ?_)
  have hl : lv_has ls 6 [(0, .ref a_m), (1, .int p1), (2, .int p2)] := hl
  have h := hg
  unfold g_X7_apart at h
  refine lv_iconst (v := (0 : Int32)) hx hb dX7_apart_0 (by decide +kernel) ?_
  refine lv_istore_n (lv' := [(3, .int (0 : Int32)), (0, .ref a_m), (1, .int p1), (2, .int p2)]) hx hb dX7_apart_1 rfl hl (by decide) rfl (fun ls hl => ?_)
  refine lv_iconst (v := (0 : Int32)) hx hb dX7_apart_2 (by decide +kernel) ?_
  refine lv_istore (lv' := [(4, .int (0 : Int32)), (3, .int (0 : Int32)), (0, .ref a_m), (1, .int p1), (2, .int p2)]) hx hb dX7_apart_3 hl (by decide) rfl (fun ls hl => ?_)
  obtain ⟨J5, ⟨n5, h⟩, hz5, hs5⟩ := h
  have hL5 : ∀ (n5 : Nat) (v3_5 : Int32) (v4_5 : Int32), J5 n5 v3_5 v4_5 → ∀ (H : Heap) (locs : List Loc) (ls : Array Slot), va_P (dC, dI) vwCl [(a_m, .inr (7, [.int mkd, .int mrt, .int mri, .int mca, .int mpr, .int men, .ref a_mp, .ref a_me, .int mth, .int mrq, .ref a_mq, .long mtr, .ref a_mr, .ref a_mo, .int mos, .ref a_ml, .ref a_mt, .ref a_mf])), (a_mo, .inl (kA, 96, .inl moF))] H → va_D A [(a_m, .inr (7, [.int mkd, .int mrt, .int mri, .int mca, .int mpr, .int men, .ref a_mp, .ref a_me, .int mth, .int mrq, .ref a_mq, .long mtr, .ref a_mr, .ref a_mo, .int mos, .ref a_ml, .ref a_mt, .ref a_mf])), (a_mo, .inl (kA, 96, .inl moF))] → va_S A s.heap H locs → lv_has ls 6 [(0, .ref a_m), (1, .int p1), (2, .int p2), (3, .int v3_5), (4, .int v4_5)] → W p l e (headSpec wsX7_apart rmX7_apart).room s m args below meth c H locs 0 0 Q (F0 m 5 ls []) := by
    intro n5
    induction n5 with
    | zero => intro v3_5 v4_5 h; exact absurd h (hz5 v3_5 v4_5)
    | succ n5 ih5 =>
      intro v3_5 v4_5 h H locs ls hP hD hS hl
      replace h := hs5 n5 v3_5 v4_5 h
      refine lv_iload hx hb dX7_apart_5 (lv_at hl 4 rfl) ?_
      refine lv_aload_n hx hb dX7_apart_7 rfl (lv_at hl 0 rfl) ?_
      refine va_get (D := (dC, dI)) (ci := 7) (v := .int mth) (C := RX7) (T := TX7) (N := 18) hx hb hts (fun _ h => List.mem_cons_of_mem _ (List.mem_append_right _ h)) hown hK hP 0 rfl rfl 8 (by decide) (hts (.fieldLink RX7 29 "RentOrBuyModel" "things" "I") (List.mem_cons_of_mem _ (List.mem_append_left _ (List.mem_of_getElem? (i := 0) rfl)))) (fun _ h9 => h9) rfl dX7_apart_8 ?_
      refine lv_icmp_ge (tgt := 91) hx hb dX7_apart_11 (by decide) (fun c11 => ?_) (fun c11 => ?_)
      · replace h := h.1 c11
        refine lv_iload_n hx hb dX7_apart_91 rfl (lv_at hl 3 rfl) ?_
        rw [hQ]
        exact rt_i () hx hb hr hlocks h hP hD hS dX7_apart_92
      · replace h := h.2 c11
        refine lv_iconst (v := (0 : Int32)) hx hb dX7_apart_14 (by decide +kernel) ?_
        refine lv_istore (lv' := [(5, .int (0 : Int32)), (0, .ref a_m), (1, .int p1), (2, .int p2), (3, .int v3_5), (4, .int v4_5)]) hx hb dX7_apart_15 hl (by decide) rfl (fun ls hl => ?_)
        obtain ⟨J17, ⟨n17, h⟩, hz17, hs17⟩ := h
        have hL17 : ∀ (n17 : Nat) (v3_17 : Int32) (v5_17 : Int32), J17 n17 v3_17 v5_17 → ∀ (H : Heap) (locs : List Loc) (ls : Array Slot), va_P (dC, dI) vwCl [(a_m, .inr (7, [.int mkd, .int mrt, .int mri, .int mca, .int mpr, .int men, .ref a_mp, .ref a_me, .int mth, .int mrq, .ref a_mq, .long mtr, .ref a_mr, .ref a_mo, .int mos, .ref a_ml, .ref a_mt, .ref a_mf])), (a_mo, .inl (kA, 96, .inl moF))] H → va_D A [(a_m, .inr (7, [.int mkd, .int mrt, .int mri, .int mca, .int mpr, .int men, .ref a_mp, .ref a_me, .int mth, .int mrq, .ref a_mq, .long mtr, .ref a_mr, .ref a_mo, .int mos, .ref a_ml, .ref a_mt, .ref a_mf])), (a_mo, .inl (kA, 96, .inl moF))] → va_S A s.heap H locs → lv_has ls 6 [(0, .ref a_m), (1, .int p1), (2, .int p2), (3, .int v3_17), (4, .int v4_5), (5, .int v5_17)] → W p l e (headSpec wsX7_apart rmX7_apart).room s m args below meth c H locs 0 0 Q (F0 m 17 ls []) := by
          intro n17
          induction n17 with
          | zero => intro v3_17 v5_17 h; exact absurd h (hz17 v3_17 v5_17)
          | succ n17 ih17 =>
            intro v3_17 v5_17 h H locs ls hP hD hS hl
            replace h := hs17 n17 v3_17 v5_17 h
            refine lv_iload hx hb dX7_apart_17 (lv_at hl 5 rfl) ?_
            refine lv_iload hx hb dX7_apart_19 (lv_at hl 4 rfl) ?_
            refine lv_icmp_ge (tgt := 85) hx hb dX7_apart_21 (by decide) (fun c21 => ?_) (fun c21 => ?_)
            · replace h := h.1 c21
              refine lv_iinc (v := (v4_5 + (1 : Int32))) (lv' := [(4, .int (v4_5 + (1 : Int32))), (0, .ref a_m), (1, .int p1), (2, .int p2), (3, .int v3_17), (5, .int v5_17)]) hx hb dX7_apart_85 hl (k := 4) rfl (by rfl) (by decide) rfl (fun ls hl => ?_)
              refine lv_goto (tgt := 5) hx hb dX7_apart_88 (by decide) ?_
              exact ih5 v3_17 (v4_5 + (1 : Int32)) h _ _ _ hP hD hS (lv_sub hl [1, 2, 3, 4, 0] rfl)
            · replace h := h.2 c21
              refine lv_iload_n hx hb dX7_apart_24 rfl (lv_at hl 3 rfl) ?_
              refine lv_aload_n hx hb dX7_apart_25 rfl (lv_at hl 0 rfl) ?_
              refine lv_iload_n hx hb dX7_apart_26 rfl (lv_at hl 1 rfl) ?_
              refine lv_iload hx hb dX7_apart_27 (lv_at hl 4 rfl) ?_
              have hPc := hP.sub (ws' := [(a_m, .inr (7, [.int mkd, .int mrt, .int mri, .int mca, .int mpr, .int men, .ref a_mp, .ref a_me, .int mth, .int mrq, .ref a_mq, .long mtr, .ref a_mr, .ref a_mo, .int mos, .ref a_ml, .ref a_mt, .ref a_mf])), (a_mo, .inl (kA, 96, .inl moF))]) [0, 1] rfl
              have hDc := hD.sub (ws' := [(a_m, .inr (7, [.int mkd, .int mrt, .int mri, .int mca, .int mpr, .int men, .ref a_mp, .ref a_me, .int mth, .int mrq, .ref a_mq, .long mtr, .ref a_mr, .ref a_mo, .int mos, .ref a_ml, .ref a_mt, .ref a_mf])), (a_mo, .inl (kA, 96, .inl moF))]) [0, 1] (by decide) rfl
              refine fr_i (wr := []) (WN := fun (u29 : Unit) => [(a_m, .inr (7, [.int mkd, .int mrt, .int mri, .int mca, .int mpr, .int men, .ref a_mp, .ref a_me, .int mth, .int mrq, .ref a_mq, .long mtr, .ref a_mr, .ref a_mo, .int mos, .ref a_ml, .ref a_mt, .ref a_mf])), (a_mo, .inl (kA, 96, .inl moF))]) (va_runV (As := [.int p1, .int v4_5]) (rest := [.int v3_17]) ⟨hx, hb, hml, hown, hts⟩ (c_X7_placeIn l dC dI kA a_m a_mo a_mp a_me a_mq a_mr a_ml a_mt a_mf H.size mkd mrt mri mca mpr men mth mrq mtr mos moF p1 v4_5 _ h) (cwV 2 hts gX7_apart_X7_placeIn rfl rfl rfl (by decide +kernel) ⟨Nat.le_of_ble_eq_true rfl, Nat.le_of_ble_eq_true rfl⟩) (prW.preV (ci := 7) (q0 := 0) hPc hDc hK hN rfl rfl) rfl rfl hl.1 rfl (lv_room (Nat.le_of_ble_eq_true rfl)) dX7_apart_29 ⟨Nat.le_of_ble_eq_true rfl, Nat.le_of_ble_eq_true rfl⟩) hP hD hS hA [0, 1] [] rfl rfl (by decide) (by decide) [0, 1] (by decide) (fun _ => rfl) (fun r29 u29 H locs h hP hD hS => ?_)
              have hP : va_P (dC, dI) vwCl [(a_m, .inr (7, [.int mkd, .int mrt, .int mri, .int mca, .int mpr, .int men, .ref a_mp, .ref a_me, .int mth, .int mrq, .ref a_mq, .long mtr, .ref a_mr, .ref a_mo, .int mos, .ref a_ml, .ref a_mt, .ref a_mf])), (a_mo, .inl (kA, 96, .inl moF))] H := hP
              have hD : va_D A [(a_m, .inr (7, [.int mkd, .int mrt, .int mri, .int mca, .int mpr, .int men, .ref a_mp, .ref a_me, .int mth, .int mrq, .ref a_mq, .long mtr, .ref a_mr, .ref a_mo, .int mos, .ref a_ml, .ref a_mt, .ref a_mf])), (a_mo, .inl (kA, 96, .inl moF))] := hD
              refine lv_aload_n hx hb dX7_apart_32 rfl (lv_at hl 0 rfl) ?_
              refine lv_iload_n hx hb dX7_apart_33 rfl (lv_at hl 1 rfl) ?_
              refine lv_iload hx hb dX7_apart_34 (lv_at hl 5 rfl) ?_
              have hPc := hP.sub (ws' := [(a_m, .inr (7, [.int mkd, .int mrt, .int mri, .int mca, .int mpr, .int men, .ref a_mp, .ref a_me, .int mth, .int mrq, .ref a_mq, .long mtr, .ref a_mr, .ref a_mo, .int mos, .ref a_ml, .ref a_mt, .ref a_mf])), (a_mo, .inl (kA, 96, .inl moF))]) [0, 1] rfl
              have hDc := hD.sub (ws' := [(a_m, .inr (7, [.int mkd, .int mrt, .int mri, .int mca, .int mpr, .int men, .ref a_mp, .ref a_me, .int mth, .int mrq, .ref a_mq, .long mtr, .ref a_mr, .ref a_mo, .int mos, .ref a_ml, .ref a_mt, .ref a_mf])), (a_mo, .inl (kA, 96, .inl moF))]) [0, 1] (by decide) rfl
              refine fr_i (wr := []) (WN := fun (u36 : Unit) => [(a_m, .inr (7, [.int mkd, .int mrt, .int mri, .int mca, .int mpr, .int men, .ref a_mp, .ref a_me, .int mth, .int mrq, .ref a_mq, .long mtr, .ref a_mr, .ref a_mo, .int mos, .ref a_ml, .ref a_mt, .ref a_mf])), (a_mo, .inl (kA, 96, .inl moF))]) (va_runV (As := [.int p1, .int v5_17]) (rest := [.int r29, .int v3_17]) ⟨hx, hb, hml, hown, hts⟩ (c_X7_placeIn l dC dI kA a_m a_mo a_mp a_me a_mq a_mr a_ml a_mt a_mf H.size mkd mrt mri mca mpr men mth mrq mtr mos moF p1 v5_17 _ h) (cwV 2 hts gX7_apart_X7_placeIn rfl rfl rfl (by decide +kernel) ⟨Nat.le_of_ble_eq_true rfl, Nat.le_of_ble_eq_true rfl⟩) (prW.preV (ci := 7) (q0 := 0) hPc hDc hK hN rfl rfl) rfl rfl hl.1 rfl (lv_room (Nat.le_of_ble_eq_true rfl)) dX7_apart_36 ⟨Nat.le_of_ble_eq_true rfl, Nat.le_of_ble_eq_true rfl⟩) hP hD hS hA [0, 1] [] rfl rfl (by decide) (by decide) [0, 1] (by decide) (fun _ => rfl) (fun r36 u36 H locs h hP hD hS => ?_)
              have hP : va_P (dC, dI) vwCl [(a_m, .inr (7, [.int mkd, .int mrt, .int mri, .int mca, .int mpr, .int men, .ref a_mp, .ref a_me, .int mth, .int mrq, .ref a_mq, .long mtr, .ref a_mr, .ref a_mo, .int mos, .ref a_ml, .ref a_mt, .ref a_mf])), (a_mo, .inl (kA, 96, .inl moF))] H := hP
              have hD : va_D A [(a_m, .inr (7, [.int mkd, .int mrt, .int mri, .int mca, .int mpr, .int men, .ref a_mp, .ref a_me, .int mth, .int mrq, .ref a_mq, .long mtr, .ref a_mr, .ref a_mo, .int mos, .ref a_ml, .ref a_mt, .ref a_mf])), (a_mo, .inl (kA, 96, .inl moF))] := hD
              obtain ⟨J47, hR47, h⟩ := h
              have hJ47 : ∀ (t0_47 : Int32), J47 t0_47 → ∀ (H : Heap) (locs : List Loc) (ls : Array Slot), va_P (dC, dI) vwCl [(a_m, .inr (7, [.int mkd, .int mrt, .int mri, .int mca, .int mpr, .int men, .ref a_mp, .ref a_me, .int mth, .int mrq, .ref a_mq, .long mtr, .ref a_mr, .ref a_mo, .int mos, .ref a_ml, .ref a_mt, .ref a_mf])), (a_mo, .inl (kA, 96, .inl moF))] H → va_D A [(a_m, .inr (7, [.int mkd, .int mrt, .int mri, .int mca, .int mpr, .int men, .ref a_mp, .ref a_me, .int mth, .int mrq, .ref a_mq, .long mtr, .ref a_mr, .ref a_mo, .int mos, .ref a_ml, .ref a_mt, .ref a_mf])), (a_mo, .inl (kA, 96, .inl moF))] → va_S A s.heap H locs → lv_has ls 6 [(0, .ref a_m), (1, .int p1), (2, .int p2), (4, .int v4_5), (5, .int v5_17)] → W p l e (headSpec wsX7_apart rmX7_apart).room s m args below meth c H locs 0 0 Q (F0 m 47 ls [.int t0_47, .int v3_17]) := by
                intro t0_47 h H locs ls hP hD hS hl
                replace h := hR47 t0_47 h
                refine lv_aload_n hx hb dX7_apart_47 rfl (lv_at hl 0 rfl) ?_
                refine lv_iload_n hx hb dX7_apart_48 rfl (lv_at hl 2 rfl) ?_
                refine lv_iload hx hb dX7_apart_49 (lv_at hl 3 rfl) ?_
                have hPc := hP.sub (ws' := [(a_m, .inr (7, [.int mkd, .int mrt, .int mri, .int mca, .int mpr, .int men, .ref a_mp, .ref a_me, .int mth, .int mrq, .ref a_mq, .long mtr, .ref a_mr, .ref a_mo, .int mos, .ref a_ml, .ref a_mt, .ref a_mf])), (a_mo, .inl (kA, 96, .inl moF))]) [0, 1] rfl
                have hDc := hD.sub (ws' := [(a_m, .inr (7, [.int mkd, .int mrt, .int mri, .int mca, .int mpr, .int men, .ref a_mp, .ref a_me, .int mth, .int mrq, .ref a_mq, .long mtr, .ref a_mr, .ref a_mo, .int mos, .ref a_ml, .ref a_mt, .ref a_mf])), (a_mo, .inl (kA, 96, .inl moF))]) [0, 1] (by decide) rfl
                refine fr_i (wr := []) (WN := fun (u51 : Unit) => [(a_m, .inr (7, [.int mkd, .int mrt, .int mri, .int mca, .int mpr, .int men, .ref a_mp, .ref a_me, .int mth, .int mrq, .ref a_mq, .long mtr, .ref a_mr, .ref a_mo, .int mos, .ref a_ml, .ref a_mt, .ref a_mf])), (a_mo, .inl (kA, 96, .inl moF))]) (va_runV (As := [.int p2, .int v4_5]) (rest := [.int t0_47, .int v3_17]) ⟨hx, hb, hml, hown, hts⟩ (c_X7_placeIn l dC dI kA a_m a_mo a_mp a_me a_mq a_mr a_ml a_mt a_mf H.size mkd mrt mri mca mpr men mth mrq mtr mos moF p2 v4_5 _ h) (cwV 2 hts gX7_apart_X7_placeIn rfl rfl rfl (by decide +kernel) ⟨Nat.le_of_ble_eq_true rfl, Nat.le_of_ble_eq_true rfl⟩) (prW.preV (ci := 7) (q0 := 0) hPc hDc hK hN rfl rfl) rfl rfl hl.1 rfl (lv_room (Nat.le_of_ble_eq_true rfl)) dX7_apart_51 ⟨Nat.le_of_ble_eq_true rfl, Nat.le_of_ble_eq_true rfl⟩) hP hD hS hA [0, 1] [] rfl rfl (by decide) (by decide) [0, 1] (by decide) (fun _ => rfl) (fun r51 u51 H locs h hP hD hS => ?_)
                have hP : va_P (dC, dI) vwCl [(a_m, .inr (7, [.int mkd, .int mrt, .int mri, .int mca, .int mpr, .int men, .ref a_mp, .ref a_me, .int mth, .int mrq, .ref a_mq, .long mtr, .ref a_mr, .ref a_mo, .int mos, .ref a_ml, .ref a_mt, .ref a_mf])), (a_mo, .inl (kA, 96, .inl moF))] H := hP
                have hD : va_D A [(a_m, .inr (7, [.int mkd, .int mrt, .int mri, .int mca, .int mpr, .int men, .ref a_mp, .ref a_me, .int mth, .int mrq, .ref a_mq, .long mtr, .ref a_mr, .ref a_mo, .int mos, .ref a_ml, .ref a_mt, .ref a_mf])), (a_mo, .inl (kA, 96, .inl moF))] := hD
                refine lv_aload_n hx hb dX7_apart_54 rfl (lv_at hl 0 rfl) ?_
                refine lv_iload_n hx hb dX7_apart_55 rfl (lv_at hl 2 rfl) ?_
                refine lv_iload hx hb dX7_apart_56 (lv_at hl 4 rfl) ?_
                have hPc := hP.sub (ws' := [(a_m, .inr (7, [.int mkd, .int mrt, .int mri, .int mca, .int mpr, .int men, .ref a_mp, .ref a_me, .int mth, .int mrq, .ref a_mq, .long mtr, .ref a_mr, .ref a_mo, .int mos, .ref a_ml, .ref a_mt, .ref a_mf])), (a_mo, .inl (kA, 96, .inl moF))]) [0, 1] rfl
                have hDc := hD.sub (ws' := [(a_m, .inr (7, [.int mkd, .int mrt, .int mri, .int mca, .int mpr, .int men, .ref a_mp, .ref a_me, .int mth, .int mrq, .ref a_mq, .long mtr, .ref a_mr, .ref a_mo, .int mos, .ref a_ml, .ref a_mt, .ref a_mf])), (a_mo, .inl (kA, 96, .inl moF))]) [0, 1] (by decide) rfl
                refine fr_i (wr := []) (WN := fun (u58 : Unit) => [(a_m, .inr (7, [.int mkd, .int mrt, .int mri, .int mca, .int mpr, .int men, .ref a_mp, .ref a_me, .int mth, .int mrq, .ref a_mq, .long mtr, .ref a_mr, .ref a_mo, .int mos, .ref a_ml, .ref a_mt, .ref a_mf])), (a_mo, .inl (kA, 96, .inl moF))]) (va_runV (As := [.int p2, .int v5_17]) (rest := [.int r51, .int t0_47, .int v3_17]) ⟨hx, hb, hml, hown, hts⟩ (c_X7_placeIn l dC dI kA a_m a_mo a_mp a_me a_mq a_mr a_ml a_mt a_mf H.size mkd mrt mri mca mpr men mth mrq mtr mos moF p2 v5_17 _ h) (cwV 2 hts gX7_apart_X7_placeIn rfl rfl rfl (by decide +kernel) ⟨Nat.le_of_ble_eq_true rfl, Nat.le_of_ble_eq_true rfl⟩) (prW.preV (ci := 7) (q0 := 0) hPc hDc hK hN rfl rfl) rfl rfl hl.1 rfl (lv_room (Nat.le_of_ble_eq_true rfl)) dX7_apart_58 ⟨Nat.le_of_ble_eq_true rfl, Nat.le_of_ble_eq_true rfl⟩) hP hD hS hA [0, 1] [] rfl rfl (by decide) (by decide) [0, 1] (by decide) (fun _ => rfl) (fun r58 u58 H locs h hP hD hS => ?_)
                have hP : va_P (dC, dI) vwCl [(a_m, .inr (7, [.int mkd, .int mrt, .int mri, .int mca, .int mpr, .int men, .ref a_mp, .ref a_me, .int mth, .int mrq, .ref a_mq, .long mtr, .ref a_mr, .ref a_mo, .int mos, .ref a_ml, .ref a_mt, .ref a_mf])), (a_mo, .inl (kA, 96, .inl moF))] H := hP
                have hD : va_D A [(a_m, .inr (7, [.int mkd, .int mrt, .int mri, .int mca, .int mpr, .int men, .ref a_mp, .ref a_me, .int mth, .int mrq, .ref a_mq, .long mtr, .ref a_mr, .ref a_mo, .int mos, .ref a_ml, .ref a_mt, .ref a_mf])), (a_mo, .inl (kA, 96, .inl moF))] := hD
                obtain ⟨J69, hR69, h⟩ := h
                have hJ69 : ∀ (t0_69 : Int32), J69 t0_69 → ∀ (H : Heap) (locs : List Loc) (ls : Array Slot), va_P (dC, dI) vwCl [(a_m, .inr (7, [.int mkd, .int mrt, .int mri, .int mca, .int mpr, .int men, .ref a_mp, .ref a_me, .int mth, .int mrq, .ref a_mq, .long mtr, .ref a_mr, .ref a_mo, .int mos, .ref a_ml, .ref a_mt, .ref a_mf])), (a_mo, .inl (kA, 96, .inl moF))] H → va_D A [(a_m, .inr (7, [.int mkd, .int mrt, .int mri, .int mca, .int mpr, .int men, .ref a_mp, .ref a_me, .int mth, .int mrq, .ref a_mq, .long mtr, .ref a_mr, .ref a_mo, .int mos, .ref a_ml, .ref a_mt, .ref a_mf])), (a_mo, .inl (kA, 96, .inl moF))] → va_S A s.heap H locs → lv_has ls 6 [(0, .ref a_m), (1, .int p1), (2, .int p2), (4, .int v4_5), (5, .int v5_17)] → W p l e (headSpec wsX7_apart rmX7_apart).room s m args below meth c H locs 0 0 Q (F0 m 69 ls [.int t0_69, .int t0_47, .int v3_17]) := by
                  intro t0_69 h H locs ls hP hD hS hl
                  replace h := hR69 t0_69 h
                  obtain ⟨J77, hR77, h⟩ := h
                  have hJ77 : ∀ (t0_77 : Int32), J77 t0_77 → ∀ (H : Heap) (locs : List Loc) (ls : Array Slot), va_P (dC, dI) vwCl [(a_m, .inr (7, [.int mkd, .int mrt, .int mri, .int mca, .int mpr, .int men, .ref a_mp, .ref a_me, .int mth, .int mrq, .ref a_mq, .long mtr, .ref a_mr, .ref a_mo, .int mos, .ref a_ml, .ref a_mt, .ref a_mf])), (a_mo, .inl (kA, 96, .inl moF))] H → va_D A [(a_m, .inr (7, [.int mkd, .int mrt, .int mri, .int mca, .int mpr, .int men, .ref a_mp, .ref a_me, .int mth, .int mrq, .ref a_mq, .long mtr, .ref a_mr, .ref a_mo, .int mos, .ref a_ml, .ref a_mt, .ref a_mf])), (a_mo, .inl (kA, 96, .inl moF))] → va_S A s.heap H locs → lv_has ls 6 [(0, .ref a_m), (1, .int p1), (2, .int p2), (4, .int v4_5), (5, .int v5_17)] → W p l e (headSpec wsX7_apart rmX7_apart).room s m args below meth c H locs 0 0 Q (F0 m 77 ls [.int t0_77, .int v3_17]) := by
                    intro t0_77 h H locs ls hP hD hS hl
                    replace h := hR77 t0_77 h
                    refine lv_iadd hx hb dX7_apart_77 ?_
                    refine lv_istore_n (lv' := [(3, .int (v3_17 + t0_77)), (0, .ref a_m), (1, .int p1), (2, .int p2), (4, .int v4_5), (5, .int v5_17)]) hx hb dX7_apart_78 rfl hl (by decide) rfl (fun ls hl => ?_)
                    refine lv_iinc (v := (v5_17 + (1 : Int32))) (lv' := [(5, .int (v5_17 + (1 : Int32))), (3, .int (v3_17 + t0_77)), (0, .ref a_m), (1, .int p1), (2, .int p2), (4, .int v4_5)]) hx hb dX7_apart_79 hl (k := 5) rfl (by rfl) (by decide) rfl (fun ls hl => ?_)
                    refine lv_goto (tgt := 17) hx hb dX7_apart_82 (by decide) ?_
                    exact ih17 (v3_17 + t0_77) (v5_17 + (1 : Int32)) h _ _ _ hP hD hS (lv_sub hl [2, 3, 4, 1, 5, 0] rfl)
                  refine lv_icmp_eq (tgt := 76) hx hb dX7_apart_69 (by decide) (fun c69 => ?_) (fun c69 => ?_)
                  · replace h := h.1 c69
                    refine lv_iconst (v := (0 : Int32)) hx hb dX7_apart_76 (by decide +kernel) ?_
                    exact hJ77 (0 : Int32) h _ _ _ hP hD hS (lv_sub hl [0, 1, 2, 3, 4] rfl)
                  · replace h := h.2 c69
                    refine lv_iconst (v := (1 : Int32)) hx hb dX7_apart_72 (by decide +kernel) ?_
                    refine lv_goto (tgt := 77) hx hb dX7_apart_73 (by decide) ?_
                    exact hJ77 (1 : Int32) h _ _ _ hP hD hS (lv_sub hl [0, 1, 2, 3, 4] rfl)
                refine lv_icmp_ge (tgt := 68) hx hb dX7_apart_61 (by decide) (fun c61 => ?_) (fun c61 => ?_)
                · replace h := h.1 c61
                  refine lv_iconst (v := (0 : Int32)) hx hb dX7_apart_68 (by decide +kernel) ?_
                  exact hJ69 (0 : Int32) h _ _ _ hP hD hS (lv_sub hl [0, 1, 2, 3, 4] rfl)
                · replace h := h.2 c61
                  refine lv_iconst (v := (1 : Int32)) hx hb dX7_apart_64 (by decide +kernel) ?_
                  refine lv_goto (tgt := 69) hx hb dX7_apart_65 (by decide) ?_
                  exact hJ69 (1 : Int32) h _ _ _ hP hD hS (lv_sub hl [0, 1, 2, 3, 4] rfl)
              refine lv_icmp_ge (tgt := 46) hx hb dX7_apart_39 (by decide) (fun c39 => ?_) (fun c39 => ?_)
              · replace h := h.1 c39
                refine lv_iconst (v := (0 : Int32)) hx hb dX7_apart_46 (by decide +kernel) ?_
                exact hJ47 (0 : Int32) h _ _ _ hP hD hS (lv_sub hl [0, 1, 2, 4, 5] rfl)
              · replace h := h.2 c39
                refine lv_iconst (v := (1 : Int32)) hx hb dX7_apart_42 (by decide +kernel) ?_
                refine lv_goto (tgt := 47) hx hb dX7_apart_43 (by decide) ?_
                exact hJ47 (1 : Int32) h _ _ _ hP hD hS (lv_sub hl [0, 1, 2, 4, 5] rfl)
        exact hL17 n17 v3_5 (0 : Int32) h _ _ _ hP hD hS (lv_sub hl [1, 2, 3, 4, 5, 0] rfl)
  exact hL5 n5 (0 : Int32) (0 : Int32) h _ _ _ hP hD hS (lv_sub hl [2, 3, 4, 1, 0] rfl)

/-- RentOrBuyModel.in -/
def rmX7_in : Room := { frames := 0, cells := 0, slots := 0, locals := 0 }
set_option maxHeartbeats 4000000 in
set_option maxRecDepth 100000 in
theorem c_X7_in (l : Launch) (dC : Nat → ClassId) (dI : Nat → Nat → Nat) (kA : ClassId) (sz : Nat) (p1 : Int32) (p2 : Int32) (p3 : Int32) (K : Int32 → Prop) (hg : g_X7_in p1 p2 p3 K) : Met l yX7_in wsX7_in rmX7_in (va_Pc [.int p1, .int p2, .int p3] (prW (dC, dI) kA sz [])) (va_Qi (fun (r : Int32) (u : Unit) => K r) (poW (dC, dI) (va_A [] sz) (fun (u : Unit) => [])) (va_A [] sz)) 0 0 (va_A [] sz) := by
  refine Met.ofW (cc := cX7_in) (maxL := 3) (ret := (some .boolean)) (by decide) rfl ?_
  intro p e s m args below meth c s₁ B hml hv
  obtain ⟨hargs, hsz, hP, hK, hD0, hN⟩ := hv
  have hx := B.exec
  have hb := B.bytes
  have hr := B.returns
  have hts := atoms_spec (ws := wsX7_in) B.pre
  have hown : s.vm.findClass RX7 = some m.cls := findClass_of_methodNamed B.named
  have hlocks := B.notSynchronized
  subst hsz
  have hD := hD0.self (sz := s.heap.size)
  generalize hAe : va_A [] s.heap.size = A at hD ⊢
  have hA : ∀ q : Nat, s.heap.size ≤ q → A q := fun q h => by rw [← hAe]; exact Or.inr h
  have hS : va_S A s.heap s.heap [] := va_S.rf
  obtain ⟨Q, hQ⟩ : ∃ Q : State → Prop, Q = MQ below (va_Qi (fun (r : Int32) (u : Unit) => K r) (poW (dC, dI) A (fun (u : Unit) => [])) A) args s 0 0 A := ⟨_, rfl⟩
  rw [← hQ]
  have hP : va_P (dC, dI) vwCl [] s.heap := hP
  refine en_ok hargs (Nat.le_of_ble_eq_true rfl) (fun ls hl => ?_)
  have hl : lv_has ls 3 [(0, .int p1), (1, .int p2), (2, .int p3)] := hl
  have h := hg
  unfold g_X7_in at h
  refine lv_iload_n hx hb dX7_in_0 rfl (lv_at hl 0 rfl) ?_
  refine lv_iload_n hx hb dX7_in_1 rfl (lv_at hl 1 rfl) ?_
  refine lv_icmp_lt (tgt := 14) hx hb dX7_in_2 (by decide) (fun c2 => ?_) (fun c2 => ?_)
  · replace h := h.1 c2
    refine lv_iconst (v := (0 : Int32)) hx hb dX7_in_14 (by decide +kernel) ?_
    rw [hQ]
    exact rt_z () hx hb hr hlocks (by decide) h hP hD hS dX7_in_15
  · replace h := h.2 c2
    refine lv_iload_n hx hb dX7_in_5 rfl (lv_at hl 0 rfl) ?_
    refine lv_iload_n hx hb dX7_in_6 rfl (lv_at hl 2 rfl) ?_
    refine lv_icmp_gt (tgt := 14) hx hb dX7_in_7 (by decide) (fun c7 => ?_) (fun c7 => ?_)
    · replace h := h.1 c7
      refine lv_iconst (v := (0 : Int32)) hx hb dX7_in_14 (by decide +kernel) ?_
      rw [hQ]
      exact rt_z () hx hb hr hlocks (by decide) h hP hD hS dX7_in_15
    · replace h := h.2 c7
      refine lv_iconst (v := (1 : Int32)) hx hb dX7_in_10 (by decide +kernel) ?_
      refine lv_goto (tgt := 15) hx hb dX7_in_11 (by decide) ?_
      rw [hQ]
      exact rt_z () hx hb hr hlocks (by decide) h hP hD hS dX7_in_15

/-- RentOrBuyModel.frontCost -/
def rmX7_frontCost : Room := { frames := 0, cells := 0, slots := 0, locals := 0 }
set_option maxHeartbeats 4000000 in
set_option maxRecDepth 100000 in
theorem c_X7_frontCost (l : Launch) (dC : Nat → ClassId) (dI : Nat → Nat → Nat) (kA : ClassId) (a_m a_mq a_mr a_mp a_me a_mo a_ml a_mt a_mf : Nat) (sz : Nat) (mkd : Int32) (mrt : Int32) (mri : Int32) (mca : Int32) (mpr : Int32) (men : Int32) (mth : Int32) (mrq : Int32) (mtr : Int64) (mos : Int32) (mqF : Nat → Int32) (mrF : Nat → Int32) (K : Int32 → (Nat → Int32) → Prop) (hg : g_X7_frontCost mkd mrt mri mca mpr men mth mrq mtr mos mqF mrF K) : Met l yX7_frontCost wsX7_frontCost rmX7_frontCost (va_Pc [.ref a_m] (prW (dC, dI) kA sz [(a_m, .inr (7, [.int mkd, .int mrt, .int mri, .int mca, .int mpr, .int men, .ref a_mp, .ref a_me, .int mth, .int mrq, .ref a_mq, .long mtr, .ref a_mr, .ref a_mo, .int mos, .ref a_ml, .ref a_mt, .ref a_mf])), (a_mq, .inl (kA, 16, .inl mqF)), (a_mr, .inl (kA, 4, .inl mrF))])) (va_Qi (fun (r : Int32) (u : (Nat → Int32)) => K r u) (poW (dC, dI) (va_A [(a_m, .inr (7, [.int mkd, .int mrt, .int mri, .int mca, .int mpr, .int men, .ref a_mp, .ref a_me, .int mth, .int mrq, .ref a_mq, .long mtr, .ref a_mr, .ref a_mo, .int mos, .ref a_ml, .ref a_mt, .ref a_mf])), (a_mq, .inl (kA, 16, .inl mqF)), (a_mr, .inl (kA, 4, .inl mrF))] sz) (fun (u : (Nat → Int32)) => [(a_m, .inr (7, [.int mkd, .int mrt, .int mri, .int mca, .int mpr, .int men, .ref a_mp, .ref a_me, .int mth, .int mrq, .ref a_mq, .long mtr, .ref a_mr, .ref a_mo, .int mos, .ref a_ml, .ref a_mt, .ref a_mf])), (a_mq, .inl (kA, 16, .inl mqF)), (a_mr, .inl (kA, 4, .inl u))])) (va_A [(a_m, .inr (7, [.int mkd, .int mrt, .int mri, .int mca, .int mpr, .int men, .ref a_mp, .ref a_me, .int mth, .int mrq, .ref a_mq, .long mtr, .ref a_mr, .ref a_mo, .int mos, .ref a_ml, .ref a_mt, .ref a_mf])), (a_mq, .inl (kA, 16, .inl mqF)), (a_mr, .inl (kA, 4, .inl mrF))] sz)) 0 0 (va_A [(a_m, .inr (7, [.int mkd, .int mrt, .int mri, .int mca, .int mpr, .int men, .ref a_mp, .ref a_me, .int mth, .int mrq, .ref a_mq, .long mtr, .ref a_mr, .ref a_mo, .int mos, .ref a_ml, .ref a_mt, .ref a_mf])), (a_mq, .inl (kA, 16, .inl mqF)), (a_mr, .inl (kA, 4, .inl mrF))] sz) := by
  refine Met.ofW (cc := cX7_frontCost) (maxL := 5) (ret := (some .int)) (by decide) rfl ?_
  intro p e s m args below meth c s₁ B hml hv
  obtain ⟨hargs, hsz, hP, hK, hD0, hN⟩ := hv
  have hx := B.exec
  have hb := B.bytes
  have hr := B.returns
  have hts := atoms_spec (ws := wsX7_frontCost) B.pre
  have hown : s.vm.findClass RX7 = some m.cls := findClass_of_methodNamed B.named
  have hlocks := B.notSynchronized
  subst hsz
  have hD := hD0.self (sz := s.heap.size)
  generalize hAe : va_A [(a_m, .inr (7, [.int mkd, .int mrt, .int mri, .int mca, .int mpr, .int men, .ref a_mp, .ref a_me, .int mth, .int mrq, .ref a_mq, .long mtr, .ref a_mr, .ref a_mo, .int mos, .ref a_ml, .ref a_mt, .ref a_mf])), (a_mq, .inl (kA, 16, .inl mqF)), (a_mr, .inl (kA, 4, .inl mrF))] s.heap.size = A at hD ⊢
  have hA : ∀ q : Nat, s.heap.size ≤ q → A q := fun q h => by rw [← hAe]; exact Or.inr h
  have hS : va_S A s.heap s.heap [] := va_S.rf
  obtain ⟨Q, hQ⟩ : ∃ Q : State → Prop, Q = MQ below (va_Qi (fun (r : Int32) (u : (Nat → Int32)) => K r u) (poW (dC, dI) A (fun (u : (Nat → Int32)) => [(a_m, .inr (7, [.int mkd, .int mrt, .int mri, .int mca, .int mpr, .int men, .ref a_mp, .ref a_me, .int mth, .int mrq, .ref a_mq, .long mtr, .ref a_mr, .ref a_mo, .int mos, .ref a_ml, .ref a_mt, .ref a_mf])), (a_mq, .inl (kA, 16, .inl mqF)), (a_mr, .inl (kA, 4, .inl u))])) A) args s 0 0 A := ⟨_, rfl⟩
  rw [← hQ]
  have hP : va_P (dC, dI) vwCl [(a_m, .inr (7, [.int mkd, .int mrt, .int mri, .int mca, .int mpr, .int men, .ref a_mp, .ref a_me, .int mth, .int mrq, .ref a_mq, .long mtr, .ref a_mr, .ref a_mo, .int mos, .ref a_ml, .ref a_mt, .ref a_mf])), (a_mq, .inl (kA, 16, .inl mqF)), (a_mr, .inl (kA, 4, .inl mrF))] s.heap := hP
  refine en_ok hargs (Nat.le_of_ble_eq_true rfl) (fun ls hl => ?_)
  have hl : lv_has ls 5 [(0, .ref a_m)] := hl
  have h := hg
  unfold g_X7_frontCost at h
  refine lv_iconst (v := (0 : Int32)) hx hb dX7_frontCost_0 (by decide +kernel) ?_
  refine lv_istore_n (lv' := [(1, .int (0 : Int32)), (0, .ref a_m)]) hx hb dX7_frontCost_1 rfl hl (by decide) rfl (fun ls hl => ?_)
  obtain ⟨J2, ⟨n2, h⟩, hz2, hs2⟩ := h
  have hL2 : ∀ (n2 : Nat) (v1_2 : Int32) (mrF_2 : Nat → Int32), J2 n2 v1_2 mrF_2 → ∀ (H : Heap) (locs : List Loc) (ls : Array Slot), va_P (dC, dI) vwCl [(a_m, .inr (7, [.int mkd, .int mrt, .int mri, .int mca, .int mpr, .int men, .ref a_mp, .ref a_me, .int mth, .int mrq, .ref a_mq, .long mtr, .ref a_mr, .ref a_mo, .int mos, .ref a_ml, .ref a_mt, .ref a_mf])), (a_mq, .inl (kA, 16, .inl mqF)), (a_mr, .inl (kA, 4, .inl mrF_2))] H → va_D A [(a_m, .inr (7, [.int mkd, .int mrt, .int mri, .int mca, .int mpr, .int men, .ref a_mp, .ref a_me, .int mth, .int mrq, .ref a_mq, .long mtr, .ref a_mr, .ref a_mo, .int mos, .ref a_ml, .ref a_mt, .ref a_mf])), (a_mq, .inl (kA, 16, .inl mqF)), (a_mr, .inl (kA, 4, .inl mrF_2))] → va_S A s.heap H locs → lv_has ls 5 [(0, .ref a_m), (1, .int v1_2)] → W p l e (headSpec wsX7_frontCost rmX7_frontCost).room s m args below meth c H locs 0 0 Q (F0 m 2 ls []) := by
    intro n2
    induction n2 with
    | zero => intro v1_2 mrF_2 h; exact absurd h (hz2 v1_2 mrF_2)
    | succ n2 ih2 =>
      intro v1_2 mrF_2 h H locs ls hP hD hS hl
      replace h := hs2 n2 v1_2 mrF_2 h
      refine lv_iload_n hx hb dX7_frontCost_2 rfl (lv_at hl 1 rfl) ?_
      refine lv_aload_n hx hb dX7_frontCost_3 rfl (lv_at hl 0 rfl) ?_
      refine va_get (D := (dC, dI)) (ci := 7) (v := .int mth) (C := RX7) (T := TX7) (N := 18) hx hb hts (fun _ h => List.mem_cons_of_mem _ (List.mem_append_right _ h)) hown hK hP 0 rfl rfl 8 (by decide) (hts (.fieldLink RX7 29 "RentOrBuyModel" "things" "I") (List.mem_cons_of_mem _ (List.mem_append_left _ (List.mem_of_getElem? (i := 0) rfl)))) (fun _ h9 => h9) rfl dX7_frontCost_4 ?_
      refine lv_icmp_ge (tgt := 23) hx hb dX7_frontCost_7 (by decide) (fun c7 => ?_) (fun c7 => ?_)
      · replace h := h.1 c7
        refine lv_iconst (v := (0 : Int32)) hx hb dX7_frontCost_23 (by decide +kernel) ?_
        refine lv_istore_n (lv' := [(1, .int (0 : Int32)), (0, .ref a_m)]) hx hb dX7_frontCost_24 rfl hl (by decide) rfl (fun ls hl => ?_)
        refine lv_iconst (v := (0 : Int32)) hx hb dX7_frontCost_25 (by decide +kernel) ?_
        refine lv_istore_n (lv' := [(2, .int (0 : Int32)), (1, .int (0 : Int32)), (0, .ref a_m)]) hx hb dX7_frontCost_26 rfl hl (by decide) rfl (fun ls hl => ?_)
        obtain ⟨J27, ⟨n27, h⟩, hz27, hs27⟩ := h
        have hL27 : ∀ (n27 : Nat) (v1_27 : Int32) (v2_27 : Int32) (mrF_27 : Nat → Int32), J27 n27 v1_27 v2_27 mrF_27 → ∀ (H : Heap) (locs : List Loc) (ls : Array Slot), va_P (dC, dI) vwCl [(a_m, .inr (7, [.int mkd, .int mrt, .int mri, .int mca, .int mpr, .int men, .ref a_mp, .ref a_me, .int mth, .int mrq, .ref a_mq, .long mtr, .ref a_mr, .ref a_mo, .int mos, .ref a_ml, .ref a_mt, .ref a_mf])), (a_mq, .inl (kA, 16, .inl mqF)), (a_mr, .inl (kA, 4, .inl mrF_27))] H → va_D A [(a_m, .inr (7, [.int mkd, .int mrt, .int mri, .int mca, .int mpr, .int men, .ref a_mp, .ref a_me, .int mth, .int mrq, .ref a_mq, .long mtr, .ref a_mr, .ref a_mo, .int mos, .ref a_ml, .ref a_mt, .ref a_mf])), (a_mq, .inl (kA, 16, .inl mqF)), (a_mr, .inl (kA, 4, .inl mrF_27))] → va_S A s.heap H locs → lv_has ls 5 [(0, .ref a_m), (1, .int v1_27), (2, .int v2_27)] → W p l e (headSpec wsX7_frontCost rmX7_frontCost).room s m args below meth c H locs 0 0 Q (F0 m 27 ls []) := by
          intro n27
          induction n27 with
          | zero => intro v1_27 v2_27 mrF_27 h; exact absurd h (hz27 v1_27 v2_27 mrF_27)
          | succ n27 ih27 =>
            intro v1_27 v2_27 mrF_27 h H locs ls hP hD hS hl
            replace h := hs27 n27 v1_27 v2_27 mrF_27 h
            refine lv_iload_n hx hb dX7_frontCost_27 rfl (lv_at hl 2 rfl) ?_
            refine lv_aload_n hx hb dX7_frontCost_28 rfl (lv_at hl 0 rfl) ?_
            refine va_get (D := (dC, dI)) (ci := 7) (v := .int mrq) (C := RX7) (T := TX7) (N := 18) hx hb hts (fun _ h => List.mem_cons_of_mem _ (List.mem_append_right _ h)) hown hK hP 0 rfl rfl 9 (by decide) (hts (.fieldLink RX7 50 "RentOrBuyModel" "requests" "I") (List.mem_cons_of_mem _ (List.mem_append_left _ (List.mem_of_getElem? (i := 2) rfl)))) (fun _ h9 => h9) rfl dX7_frontCost_29 ?_
            refine lv_icmp_ge (tgt := 112) hx hb dX7_frontCost_32 (by decide) (fun c32 => ?_) (fun c32 => ?_)
            · replace h := h.1 c32
              refine lv_iload_n hx hb dX7_frontCost_112 rfl (lv_at hl 1 rfl) ?_
              rw [hQ]
              exact rt_i (mrF_27) hx hb hr hlocks h hP hD hS dX7_frontCost_113
            · replace h := h.2 c32
              refine lv_iconst (v := (0 : Int32)) hx hb dX7_frontCost_35 (by decide +kernel) ?_
              refine lv_istore_n (lv' := [(3, .int (0 : Int32)), (0, .ref a_m), (1, .int v1_27), (2, .int v2_27)]) hx hb dX7_frontCost_36 rfl hl (by decide) rfl (fun ls hl => ?_)
              obtain ⟨J37, ⟨n37, h⟩, hz37, hs37⟩ := h
              have hL37 : ∀ (n37 : Nat) (v3_37 : Int32), J37 n37 v3_37 → ∀ (H : Heap) (locs : List Loc) (ls : Array Slot), va_P (dC, dI) vwCl [(a_m, .inr (7, [.int mkd, .int mrt, .int mri, .int mca, .int mpr, .int men, .ref a_mp, .ref a_me, .int mth, .int mrq, .ref a_mq, .long mtr, .ref a_mr, .ref a_mo, .int mos, .ref a_ml, .ref a_mt, .ref a_mf])), (a_mq, .inl (kA, 16, .inl mqF)), (a_mr, .inl (kA, 4, .inl mrF_27))] H → va_D A [(a_m, .inr (7, [.int mkd, .int mrt, .int mri, .int mca, .int mpr, .int men, .ref a_mp, .ref a_me, .int mth, .int mrq, .ref a_mq, .long mtr, .ref a_mr, .ref a_mo, .int mos, .ref a_ml, .ref a_mt, .ref a_mf])), (a_mq, .inl (kA, 16, .inl mqF)), (a_mr, .inl (kA, 4, .inl mrF_27))] → va_S A s.heap H locs → lv_has ls 5 [(0, .ref a_m), (1, .int v1_27), (2, .int v2_27), (3, .int v3_37)] → W p l e (headSpec wsX7_frontCost rmX7_frontCost).room s m args below meth c H locs 0 0 Q (F0 m 37 ls []) := by
                intro n37
                induction n37 with
                | zero => intro v3_37 h; exact absurd h (hz37 v3_37)
                | succ n37 ih37 =>
                  intro v3_37 h H locs ls hP hD hS hl
                  replace h := hs37 n37 v3_37 h
                  refine lv_aload_n hx hb dX7_frontCost_37 rfl (lv_at hl 0 rfl) ?_
                  refine va_get (D := (dC, dI)) (ci := 7) (v := .ref a_mr) (C := RX7) (T := TX7) (N := 18) hx hb hts (fun _ h => List.mem_cons_of_mem _ (List.mem_append_right _ h)) hown hK hP 0 rfl rfl 12 (by decide) (hts (.fieldLink RX7 35 "RentOrBuyModel" "row" "[I") (List.mem_cons_of_mem _ (List.mem_append_left _ (List.mem_of_getElem? (i := 1) rfl)))) (fun _ h9 => h9) rfl dX7_frontCost_38 ?_
                  refine lv_iload_n hx hb dX7_frontCost_41 rfl (lv_at hl 3 rfl) ?_
                  obtain ⟨hi42, h⟩ := h
                  refine va_iald hx hb hK hP 2 0 rfl rfl hi42 dX7_frontCost_42 ?_
                  refine lv_aload_n hx hb dX7_frontCost_43 rfl (lv_at hl 0 rfl) ?_
                  refine va_get (D := (dC, dI)) (ci := 7) (v := .ref a_mq) (C := RX7) (T := TX7) (N := 18) hx hb hts (fun _ h => List.mem_cons_of_mem _ (List.mem_append_right _ h)) hown hK hP 0 rfl rfl 10 (by decide) (hts (.fieldLink RX7 32 "RentOrBuyModel" "request" "[I") (List.mem_cons_of_mem _ (List.mem_append_left _ (List.mem_of_getElem? (i := 3) rfl)))) (fun _ h9 => h9) rfl dX7_frontCost_44 ?_
                  refine lv_iload_n hx hb dX7_frontCost_47 rfl (lv_at hl 2 rfl) ?_
                  obtain ⟨hi48, h⟩ := h
                  refine va_iald hx hb hK hP 1 0 rfl rfl hi48 dX7_frontCost_48 ?_
                  refine lv_icmp_eq (tgt := 58) hx hb dX7_frontCost_49 (by decide) (fun c49 => ?_) (fun c49 => ?_)
                  · replace h := h.1 c49
                    refine lv_iload_n hx hb dX7_frontCost_58 rfl (lv_at hl 1 rfl) ?_
                    refine lv_iload_n hx hb dX7_frontCost_59 rfl (lv_at hl 3 rfl) ?_
                    refine lv_iconst (v := (1 : Int32)) hx hb dX7_frontCost_60 (by decide +kernel) ?_
                    refine lv_iadd hx hb dX7_frontCost_61 ?_
                    refine lv_iadd hx hb dX7_frontCost_62 ?_
                    refine lv_istore_n (lv' := [(1, .int (v1_27 + (v3_37 + (1 : Int32)))), (0, .ref a_m), (2, .int v2_27), (3, .int v3_37)]) hx hb dX7_frontCost_63 rfl hl (by decide) rfl (fun ls hl => ?_)
                    refine lv_iload_n hx hb dX7_frontCost_64 rfl (lv_at hl 3 rfl) ?_
                    refine lv_istore (lv' := [(4, .int v3_37), (1, .int (v1_27 + (v3_37 + (1 : Int32)))), (0, .ref a_m), (2, .int v2_27), (3, .int v3_37)]) hx hb dX7_frontCost_65 hl (by decide) rfl (fun ls hl => ?_)
                    obtain ⟨J67, ⟨n67, h⟩, hz67, hs67⟩ := h
                    have hL67 : ∀ (n67 : Nat) (v4_67 : Int32) (mrF_67 : Nat → Int32), J67 n67 v4_67 mrF_67 → ∀ (H : Heap) (locs : List Loc) (ls : Array Slot), va_P (dC, dI) vwCl [(a_m, .inr (7, [.int mkd, .int mrt, .int mri, .int mca, .int mpr, .int men, .ref a_mp, .ref a_me, .int mth, .int mrq, .ref a_mq, .long mtr, .ref a_mr, .ref a_mo, .int mos, .ref a_ml, .ref a_mt, .ref a_mf])), (a_mq, .inl (kA, 16, .inl mqF)), (a_mr, .inl (kA, 4, .inl mrF_67))] H → va_D A [(a_m, .inr (7, [.int mkd, .int mrt, .int mri, .int mca, .int mpr, .int men, .ref a_mp, .ref a_me, .int mth, .int mrq, .ref a_mq, .long mtr, .ref a_mr, .ref a_mo, .int mos, .ref a_ml, .ref a_mt, .ref a_mf])), (a_mq, .inl (kA, 16, .inl mqF)), (a_mr, .inl (kA, 4, .inl mrF_67))] → va_S A s.heap H locs → lv_has ls 5 [(0, .ref a_m), (1, .int (v1_27 + (v3_37 + (1 : Int32)))), (2, .int v2_27), (4, .int v4_67)] → W p l e (headSpec wsX7_frontCost rmX7_frontCost).room s m args below meth c H locs 0 0 Q (F0 m 67 ls []) := by
                      intro n67
                      induction n67 with
                      | zero => intro v4_67 mrF_67 h; exact absurd h (hz67 v4_67 mrF_67)
                      | succ n67 ih67 =>
                        intro v4_67 mrF_67 h H locs ls hP hD hS hl
                        replace h := hs67 n67 v4_67 mrF_67 h
                        refine lv_iload hx hb dX7_frontCost_67 (lv_at hl 3 rfl) ?_
                        refine lv_if_le (tgt := 94) hx hb dX7_frontCost_69 (by decide) (fun c69 => ?_) (fun c69 => ?_)
                        · replace h := h.1 c69
                          refine lv_aload_n hx hb dX7_frontCost_94 rfl (lv_at hl 0 rfl) ?_
                          refine va_get (D := (dC, dI)) (ci := 7) (v := .ref a_mr) (C := RX7) (T := TX7) (N := 18) hx hb hts (fun _ h => List.mem_cons_of_mem _ (List.mem_append_right _ h)) hown hK hP 0 rfl rfl 12 (by decide) (hts (.fieldLink RX7 35 "RentOrBuyModel" "row" "[I") (List.mem_cons_of_mem _ (List.mem_append_left _ (List.mem_of_getElem? (i := 1) rfl)))) (fun _ h9 => h9) rfl dX7_frontCost_95 ?_
                          refine lv_iconst (v := (0 : Int32)) hx hb dX7_frontCost_98 (by decide +kernel) ?_
                          refine lv_aload_n hx hb dX7_frontCost_99 rfl (lv_at hl 0 rfl) ?_
                          refine va_get (D := (dC, dI)) (ci := 7) (v := .ref a_mq) (C := RX7) (T := TX7) (N := 18) hx hb hts (fun _ h => List.mem_cons_of_mem _ (List.mem_append_right _ h)) hown hK hP 0 rfl rfl 10 (by decide) (hts (.fieldLink RX7 32 "RentOrBuyModel" "request" "[I") (List.mem_cons_of_mem _ (List.mem_append_left _ (List.mem_of_getElem? (i := 3) rfl)))) (fun _ h9 => h9) rfl dX7_frontCost_100 ?_
                          refine lv_iload_n hx hb dX7_frontCost_103 rfl (lv_at hl 2 rfl) ?_
                          obtain ⟨hi104, h⟩ := h
                          refine va_iald hx hb hK hP 1 0 rfl rfl hi104 dX7_frontCost_104 ?_
                          obtain ⟨hi105, h⟩ := h
                          refine va_iast hx hb hK hP hD hS 2 0 rfl rfl hi105 dX7_frontCost_105 (fun H locs hP hD hS => ?_)
                          have hP : va_P (dC, dI) vwCl [(a_m, .inr (7, [.int mkd, .int mrt, .int mri, .int mca, .int mpr, .int men, .ref a_mp, .ref a_me, .int mth, .int mrq, .ref a_mq, .long mtr, .ref a_mr, .ref a_mo, .int mos, .ref a_ml, .ref a_mt, .ref a_mf])), (a_mq, .inl (kA, 16, .inl mqF)), (a_mr, .inl (kA, 4, .inl (upd mrF_67 (0 : Int32).toNatClampNeg (mqF v2_27.toNatClampNeg))))] H := hP
                          have hD : va_D A [(a_m, .inr (7, [.int mkd, .int mrt, .int mri, .int mca, .int mpr, .int men, .ref a_mp, .ref a_me, .int mth, .int mrq, .ref a_mq, .long mtr, .ref a_mr, .ref a_mo, .int mos, .ref a_ml, .ref a_mt, .ref a_mf])), (a_mq, .inl (kA, 16, .inl mqF)), (a_mr, .inl (kA, 4, .inl (upd mrF_67 (0 : Int32).toNatClampNeg (mqF v2_27.toNatClampNeg))))] := hD
                          refine lv_iinc (v := (v2_27 + (1 : Int32))) (lv' := [(2, .int (v2_27 + (1 : Int32))), (0, .ref a_m), (1, .int (v1_27 + (v3_37 + (1 : Int32)))), (4, .int v4_67)]) hx hb dX7_frontCost_106 hl (k := 2) rfl (by rfl) (by decide) rfl (fun ls hl => ?_)
                          refine lv_goto (tgt := 27) hx hb dX7_frontCost_109 (by decide) ?_
                          exact ih27 (v1_27 + (v3_37 + (1 : Int32))) (v2_27 + (1 : Int32)) (upd mrF_67 (0 : Int32).toNatClampNeg (mqF v2_27.toNatClampNeg)) h _ _ _ hP hD hS (lv_sub hl [1, 2, 0] rfl)
                        · replace h := h.2 c69
                          refine lv_aload_n hx hb dX7_frontCost_72 rfl (lv_at hl 0 rfl) ?_
                          refine va_get (D := (dC, dI)) (ci := 7) (v := .ref a_mr) (C := RX7) (T := TX7) (N := 18) hx hb hts (fun _ h => List.mem_cons_of_mem _ (List.mem_append_right _ h)) hown hK hP 0 rfl rfl 12 (by decide) (hts (.fieldLink RX7 35 "RentOrBuyModel" "row" "[I") (List.mem_cons_of_mem _ (List.mem_append_left _ (List.mem_of_getElem? (i := 1) rfl)))) (fun _ h9 => h9) rfl dX7_frontCost_73 ?_
                          refine lv_iload hx hb dX7_frontCost_76 (lv_at hl 3 rfl) ?_
                          refine lv_aload_n hx hb dX7_frontCost_78 rfl (lv_at hl 0 rfl) ?_
                          refine va_get (D := (dC, dI)) (ci := 7) (v := .ref a_mr) (C := RX7) (T := TX7) (N := 18) hx hb hts (fun _ h => List.mem_cons_of_mem _ (List.mem_append_right _ h)) hown hK hP 0 rfl rfl 12 (by decide) (hts (.fieldLink RX7 35 "RentOrBuyModel" "row" "[I") (List.mem_cons_of_mem _ (List.mem_append_left _ (List.mem_of_getElem? (i := 1) rfl)))) (fun _ h9 => h9) rfl dX7_frontCost_79 ?_
                          refine lv_iload hx hb dX7_frontCost_82 (lv_at hl 3 rfl) ?_
                          refine lv_iconst (v := (1 : Int32)) hx hb dX7_frontCost_84 (by decide +kernel) ?_
                          refine lv_isub hx hb dX7_frontCost_85 ?_
                          obtain ⟨hi86, h⟩ := h
                          refine va_iald hx hb hK hP 2 0 rfl rfl hi86 dX7_frontCost_86 ?_
                          obtain ⟨hi87, h⟩ := h
                          refine va_iast hx hb hK hP hD hS 2 0 rfl rfl hi87 dX7_frontCost_87 (fun H locs hP hD hS => ?_)
                          have hP : va_P (dC, dI) vwCl [(a_m, .inr (7, [.int mkd, .int mrt, .int mri, .int mca, .int mpr, .int men, .ref a_mp, .ref a_me, .int mth, .int mrq, .ref a_mq, .long mtr, .ref a_mr, .ref a_mo, .int mos, .ref a_ml, .ref a_mt, .ref a_mf])), (a_mq, .inl (kA, 16, .inl mqF)), (a_mr, .inl (kA, 4, .inl (upd mrF_67 v4_67.toNatClampNeg (mrF_67 (v4_67 - (1 : Int32)).toNatClampNeg))))] H := hP
                          have hD : va_D A [(a_m, .inr (7, [.int mkd, .int mrt, .int mri, .int mca, .int mpr, .int men, .ref a_mp, .ref a_me, .int mth, .int mrq, .ref a_mq, .long mtr, .ref a_mr, .ref a_mo, .int mos, .ref a_ml, .ref a_mt, .ref a_mf])), (a_mq, .inl (kA, 16, .inl mqF)), (a_mr, .inl (kA, 4, .inl (upd mrF_67 v4_67.toNatClampNeg (mrF_67 (v4_67 - (1 : Int32)).toNatClampNeg))))] := hD
                          refine lv_iinc (v := (v4_67 + (-1 : Int32))) (lv' := [(4, .int (v4_67 + (-1 : Int32))), (0, .ref a_m), (1, .int (v1_27 + (v3_37 + (1 : Int32)))), (2, .int v2_27)]) hx hb dX7_frontCost_88 hl (k := 3) rfl (by rfl) (by decide) rfl (fun ls hl => ?_)
                          refine lv_goto (tgt := 67) hx hb dX7_frontCost_91 (by decide) ?_
                          exact ih67 (v4_67 + (-1 : Int32)) (upd mrF_67 v4_67.toNatClampNeg (mrF_67 (v4_67 - (1 : Int32)).toNatClampNeg)) h _ _ _ hP hD hS (lv_sub hl [1, 2, 3, 0] rfl)
                    exact hL67 n67 v3_37 mrF_27 h _ _ _ hP hD hS (lv_sub hl [2, 1, 3, 0] rfl)
                  · replace h := h.2 c49
                    refine lv_iinc (v := (v3_37 + (1 : Int32))) (lv' := [(3, .int (v3_37 + (1 : Int32))), (0, .ref a_m), (1, .int v1_27), (2, .int v2_27)]) hx hb dX7_frontCost_52 hl (k := 3) rfl (by rfl) (by decide) rfl (fun ls hl => ?_)
                    refine lv_goto (tgt := 37) hx hb dX7_frontCost_55 (by decide) ?_
                    exact ih37 (v3_37 + (1 : Int32)) h _ _ _ hP hD hS (lv_sub hl [1, 2, 3, 0] rfl)
              exact hL37 n37 (0 : Int32) h _ _ _ hP hD hS (lv_sub hl [1, 2, 3, 0] rfl)
        exact hL27 n27 (0 : Int32) (0 : Int32) mrF_2 h _ _ _ hP hD hS (lv_sub hl [2, 1, 0] rfl)
      · replace h := h.2 c7
        refine lv_aload_n hx hb dX7_frontCost_10 rfl (lv_at hl 0 rfl) ?_
        refine va_get (D := (dC, dI)) (ci := 7) (v := .ref a_mr) (C := RX7) (T := TX7) (N := 18) hx hb hts (fun _ h => List.mem_cons_of_mem _ (List.mem_append_right _ h)) hown hK hP 0 rfl rfl 12 (by decide) (hts (.fieldLink RX7 35 "RentOrBuyModel" "row" "[I") (List.mem_cons_of_mem _ (List.mem_append_left _ (List.mem_of_getElem? (i := 1) rfl)))) (fun _ h9 => h9) rfl dX7_frontCost_11 ?_
        refine lv_iload_n hx hb dX7_frontCost_14 rfl (lv_at hl 1 rfl) ?_
        refine lv_iload_n hx hb dX7_frontCost_15 rfl (lv_at hl 1 rfl) ?_
        obtain ⟨hi16, h⟩ := h
        refine va_iast hx hb hK hP hD hS 2 0 rfl rfl hi16 dX7_frontCost_16 (fun H locs hP hD hS => ?_)
        have hP : va_P (dC, dI) vwCl [(a_m, .inr (7, [.int mkd, .int mrt, .int mri, .int mca, .int mpr, .int men, .ref a_mp, .ref a_me, .int mth, .int mrq, .ref a_mq, .long mtr, .ref a_mr, .ref a_mo, .int mos, .ref a_ml, .ref a_mt, .ref a_mf])), (a_mq, .inl (kA, 16, .inl mqF)), (a_mr, .inl (kA, 4, .inl (upd mrF_2 v1_2.toNatClampNeg v1_2)))] H := hP
        have hD : va_D A [(a_m, .inr (7, [.int mkd, .int mrt, .int mri, .int mca, .int mpr, .int men, .ref a_mp, .ref a_me, .int mth, .int mrq, .ref a_mq, .long mtr, .ref a_mr, .ref a_mo, .int mos, .ref a_ml, .ref a_mt, .ref a_mf])), (a_mq, .inl (kA, 16, .inl mqF)), (a_mr, .inl (kA, 4, .inl (upd mrF_2 v1_2.toNatClampNeg v1_2)))] := hD
        refine lv_iinc (v := (v1_2 + (1 : Int32))) (lv' := [(1, .int (v1_2 + (1 : Int32))), (0, .ref a_m)]) hx hb dX7_frontCost_17 hl (k := 1) rfl (by rfl) (by decide) rfl (fun ls hl => ?_)
        refine lv_goto (tgt := 2) hx hb dX7_frontCost_20 (by decide) ?_
        exact ih2 (v1_2 + (1 : Int32)) (upd mrF_2 v1_2.toNatClampNeg v1_2) h _ _ _ hP hD hS (lv_sub hl [1, 0] rfl)
  exact hL2 n2 (0 : Int32) mrF h _ _ _ hP hD hS (lv_sub hl [1, 0] rfl)

/-- RentOrBuyModel.at -/
def rmX7_at : Room := { frames := 1, cells := 0, slots := 0, locals := 24 }
set_option maxHeartbeats 4000000 in
set_option maxRecDepth 100000 in
theorem c_X7_at (l : Launch) (dC : Nat → ClassId) (dI : Nat → Nat → Nat) (kA : ClassId) (a_m a_mq a_mr a_mp a_me a_mo a_ml a_mt a_mf : Nat) (sz : Nat) (mkd : Int32) (mrt : Int32) (mri : Int32) (mca : Int32) (mpr : Int32) (men : Int32) (mth : Int32) (mrq : Int32) (mtr : Int64) (mos : Int32) (mqF : Nat → Int32) (mrF : Nat → Int32) (p1 : Int32) (K : Int32 → (Nat → Int32) → Prop) (hg : g_X7_at mkd mrt mri mca mpr men mth mrq mtr mos mqF mrF p1 K) : Met l yX7_at wsX7_at rmX7_at (va_Pc [.ref a_m, .int p1] (prW (dC, dI) kA sz [(a_m, .inr (7, [.int mkd, .int mrt, .int mri, .int mca, .int mpr, .int men, .ref a_mp, .ref a_me, .int mth, .int mrq, .ref a_mq, .long mtr, .ref a_mr, .ref a_mo, .int mos, .ref a_ml, .ref a_mt, .ref a_mf])), (a_mq, .inl (kA, 16, .inl mqF)), (a_mr, .inl (kA, 4, .inl mrF))])) (va_Qi (fun (r : Int32) (u : (Nat → Int32)) => K r u) (poW (dC, dI) (va_A [(a_m, .inr (7, [.int mkd, .int mrt, .int mri, .int mca, .int mpr, .int men, .ref a_mp, .ref a_me, .int mth, .int mrq, .ref a_mq, .long mtr, .ref a_mr, .ref a_mo, .int mos, .ref a_ml, .ref a_mt, .ref a_mf])), (a_mq, .inl (kA, 16, .inl mqF)), (a_mr, .inl (kA, 4, .inl mrF))] sz) (fun (u : (Nat → Int32)) => [(a_m, .inr (7, [.int mkd, .int mrt, .int mri, .int mca, .int mpr, .int men, .ref a_mp, .ref a_me, .int mth, .int mrq, .ref a_mq, .long mtr, .ref a_mr, .ref a_mo, .int mos, .ref a_ml, .ref a_mt, .ref a_mf])), (a_mq, .inl (kA, 16, .inl mqF)), (a_mr, .inl (kA, 4, .inl u))])) (va_A [(a_m, .inr (7, [.int mkd, .int mrt, .int mri, .int mca, .int mpr, .int men, .ref a_mp, .ref a_me, .int mth, .int mrq, .ref a_mq, .long mtr, .ref a_mr, .ref a_mo, .int mos, .ref a_ml, .ref a_mt, .ref a_mf])), (a_mq, .inl (kA, 16, .inl mqF)), (a_mr, .inl (kA, 4, .inl mrF))] sz)) 0 0 (va_A [(a_m, .inr (7, [.int mkd, .int mrt, .int mri, .int mca, .int mpr, .int men, .ref a_mp, .ref a_me, .int mth, .int mrq, .ref a_mq, .long mtr, .ref a_mr, .ref a_mo, .int mos, .ref a_ml, .ref a_mt, .ref a_mf])), (a_mq, .inl (kA, 16, .inl mqF)), (a_mr, .inl (kA, 4, .inl mrF))] sz) := by
  refine Met.ofW (cc := cX7_at) (maxL := 3) (ret := (some .int)) (by decide) rfl ?_
  intro p e s m args below meth c s₁ B hml hv
  obtain ⟨hargs, hsz, hP, hK, hD0, hN⟩ := hv
  have hx := B.exec
  have hb := B.bytes
  have hr := B.returns
  have hts := atoms_spec (ws := wsX7_at) B.pre
  have hown : s.vm.findClass RX7 = some m.cls := findClass_of_methodNamed B.named
  have hlocks := B.notSynchronized
  subst hsz
  have hD := hD0.self (sz := s.heap.size)
  generalize hAe : va_A [(a_m, .inr (7, [.int mkd, .int mrt, .int mri, .int mca, .int mpr, .int men, .ref a_mp, .ref a_me, .int mth, .int mrq, .ref a_mq, .long mtr, .ref a_mr, .ref a_mo, .int mos, .ref a_ml, .ref a_mt, .ref a_mf])), (a_mq, .inl (kA, 16, .inl mqF)), (a_mr, .inl (kA, 4, .inl mrF))] s.heap.size = A at hD ⊢
  have hA : ∀ q : Nat, s.heap.size ≤ q → A q := fun q h => by rw [← hAe]; exact Or.inr h
  have hS : va_S A s.heap s.heap [] := va_S.rf
  obtain ⟨Q, hQ⟩ : ∃ Q : State → Prop, Q = MQ below (va_Qi (fun (r : Int32) (u : (Nat → Int32)) => K r u) (poW (dC, dI) A (fun (u : (Nat → Int32)) => [(a_m, .inr (7, [.int mkd, .int mrt, .int mri, .int mca, .int mpr, .int men, .ref a_mp, .ref a_me, .int mth, .int mrq, .ref a_mq, .long mtr, .ref a_mr, .ref a_mo, .int mos, .ref a_ml, .ref a_mt, .ref a_mf])), (a_mq, .inl (kA, 16, .inl mqF)), (a_mr, .inl (kA, 4, .inl u))])) A) args s 0 0 A := ⟨_, rfl⟩
  rw [← hQ]
  have hP : va_P (dC, dI) vwCl [(a_m, .inr (7, [.int mkd, .int mrt, .int mri, .int mca, .int mpr, .int men, .ref a_mp, .ref a_me, .int mth, .int mrq, .ref a_mq, .long mtr, .ref a_mr, .ref a_mo, .int mos, .ref a_ml, .ref a_mt, .ref a_mf])), (a_mq, .inl (kA, 16, .inl mqF)), (a_mr, .inl (kA, 4, .inl mrF))] s.heap := hP
  refine en_ok hargs (Nat.le_of_ble_eq_true rfl) (fun ls hl => ?_)
  have hl : lv_has ls 3 [(0, .ref a_m), (1, .int p1)] := hl
  have h := hg
  unfold g_X7_at at h
  refine lv_iload_n hx hb dX7_at_0 rfl (lv_at hl 1 rfl) ?_
  refine lv_iconst (v := (1 : Int32)) hx hb dX7_at_1 (by decide +kernel) ?_
  refine lv_aload_n hx hb dX7_at_2 rfl (lv_at hl 0 rfl) ?_
  refine va_get (D := (dC, dI)) (ci := 7) (v := .int mth) (C := RX7) (T := TX7) (N := 18) hx hb hts (fun _ h => List.mem_cons_of_mem _ (List.mem_append_right _ h)) hown hK hP 0 rfl rfl 8 (by decide) (hts (.fieldLink RX7 29 "RentOrBuyModel" "things" "I") (List.mem_cons_of_mem _ (List.mem_append_left _ (List.mem_of_getElem? (i := 0) rfl)))) (fun _ h9 => h9) rfl dX7_at_3 ?_
  have hPc := hP.sub (ws' := []) [] rfl
  have hDc := hD.sub (ws' := []) [] (by decide) rfl
  refine fr_i (wr := [(a_m, .inr (7, [.int mkd, .int mrt, .int mri, .int mca, .int mpr, .int men, .ref a_mp, .ref a_me, .int mth, .int mrq, .ref a_mq, .long mtr, .ref a_mr, .ref a_mo, .int mos, .ref a_ml, .ref a_mt, .ref a_mf])), (a_mq, .inl (kA, 16, .inl mqF)), (a_mr, .inl (kA, 4, .inl mrF))]) (WN := fun (u6 : Unit) => [(a_m, .inr (7, [.int mkd, .int mrt, .int mri, .int mca, .int mpr, .int men, .ref a_mp, .ref a_me, .int mth, .int mrq, .ref a_mq, .long mtr, .ref a_mr, .ref a_mo, .int mos, .ref a_ml, .ref a_mt, .ref a_mf])), (a_mq, .inl (kA, 16, .inl mqF)), (a_mr, .inl (kA, 4, .inl mrF))]) (va_runS (As := [.int p1, .int (1 : Int32), .int mth]) (rest := []) ⟨hx, hb, hml, hown, hts⟩ (c_X7_in l dC dI kA s.heap.size p1 (1 : Int32) mth _ h) (va_cwS 3 hts gX7_at_X7_in rfl rfl rfl (by decide +kernel) ⟨Nat.le_of_ble_eq_true rfl, Nat.le_of_ble_eq_true rfl⟩) (prW.preS hPc hDc hK hN) rfl rfl hl.1 rfl (lv_room (Nat.le_of_ble_eq_true rfl)) dX7_at_6 ⟨Nat.le_of_ble_eq_true rfl, Nat.le_of_ble_eq_true rfl⟩) hP hD hS hA [] [0, 1, 2] rfl rfl (by decide) (by decide) [0, 1, 2] (by decide) (fun _ => rfl) (fun r6 u6 H locs h hP hD hS => ?_)
  have hP : va_P (dC, dI) vwCl [(a_m, .inr (7, [.int mkd, .int mrt, .int mri, .int mca, .int mpr, .int men, .ref a_mp, .ref a_me, .int mth, .int mrq, .ref a_mq, .long mtr, .ref a_mr, .ref a_mo, .int mos, .ref a_ml, .ref a_mt, .ref a_mf])), (a_mq, .inl (kA, 16, .inl mqF)), (a_mr, .inl (kA, 4, .inl mrF))] H := hP
  have hD : va_D A [(a_m, .inr (7, [.int mkd, .int mrt, .int mri, .int mca, .int mpr, .int men, .ref a_mp, .ref a_me, .int mth, .int mrq, .ref a_mq, .long mtr, .ref a_mr, .ref a_mo, .int mos, .ref a_ml, .ref a_mt, .ref a_mf])), (a_mq, .inl (kA, 16, .inl mqF)), (a_mr, .inl (kA, 4, .inl mrF))] := hD
  refine lv_if_ne (tgt := 14) hx hb dX7_at_9 (by decide) (fun c9 => ?_) (fun c9 => ?_)
  · replace h := h.1 c9
    refine lv_aload_n hx hb dX7_at_14 rfl (lv_at hl 0 rfl) ?_
    have hPc := hP.sub (ws' := [(a_m, .inr (7, [.int mkd, .int mrt, .int mri, .int mca, .int mpr, .int men, .ref a_mp, .ref a_me, .int mth, .int mrq, .ref a_mq, .long mtr, .ref a_mr, .ref a_mo, .int mos, .ref a_ml, .ref a_mt, .ref a_mf])), (a_mq, .inl (kA, 16, .inl mqF)), (a_mr, .inl (kA, 4, .inl mrF))]) [0, 1, 2] rfl
    have hDc := hD.sub (ws' := [(a_m, .inr (7, [.int mkd, .int mrt, .int mri, .int mca, .int mpr, .int men, .ref a_mp, .ref a_me, .int mth, .int mrq, .ref a_mq, .long mtr, .ref a_mr, .ref a_mo, .int mos, .ref a_ml, .ref a_mt, .ref a_mf])), (a_mq, .inl (kA, 16, .inl mqF)), (a_mr, .inl (kA, 4, .inl mrF))]) [0, 1, 2] (by decide) rfl
    refine fr_i (wr := []) (WN := fun (u15 : (Nat → Int32)) => [(a_m, .inr (7, [.int mkd, .int mrt, .int mri, .int mca, .int mpr, .int men, .ref a_mp, .ref a_me, .int mth, .int mrq, .ref a_mq, .long mtr, .ref a_mr, .ref a_mo, .int mos, .ref a_ml, .ref a_mt, .ref a_mf])), (a_mq, .inl (kA, 16, .inl mqF)), (a_mr, .inl (kA, 4, .inl u15))]) (va_runV (As := []) (rest := []) ⟨hx, hb, hml, hown, hts⟩ (c_X7_frontCost l dC dI kA a_m a_mq a_mr a_mp a_me a_mo a_ml a_mt a_mf H.size mkd mrt mri mca mpr men mth mrq mtr mos mqF mrF _ h) (cwV 0 hts gX7_at_X7_frontCost rfl rfl rfl (by decide +kernel) ⟨Nat.le_of_ble_eq_true rfl, Nat.le_of_ble_eq_true rfl⟩) (prW.preV (ci := 7) (q0 := 0) hPc hDc hK hN rfl rfl) rfl rfl hl.1 rfl (lv_room (Nat.le_of_ble_eq_true rfl)) dX7_at_15 ⟨Nat.le_of_ble_eq_true rfl, Nat.le_of_ble_eq_true rfl⟩) hP hD hS hA [0, 1, 2] [] rfl rfl (by decide) (by decide) [0, 1, 2] (by decide) (fun _ => rfl) (fun r15 u15 H locs h hP hD hS => ?_)
    obtain ⟨y15_mrF', rfl⟩ : ∃ z, z = u15 := ⟨_, rfl⟩
    have hP : va_P (dC, dI) vwCl [(a_m, .inr (7, [.int mkd, .int mrt, .int mri, .int mca, .int mpr, .int men, .ref a_mp, .ref a_me, .int mth, .int mrq, .ref a_mq, .long mtr, .ref a_mr, .ref a_mo, .int mos, .ref a_ml, .ref a_mt, .ref a_mf])), (a_mq, .inl (kA, 16, .inl mqF)), (a_mr, .inl (kA, 4, .inl y15_mrF'))] H := hP
    have hD : va_D A [(a_m, .inr (7, [.int mkd, .int mrt, .int mri, .int mca, .int mpr, .int men, .ref a_mp, .ref a_me, .int mth, .int mrq, .ref a_mq, .long mtr, .ref a_mr, .ref a_mo, .int mos, .ref a_ml, .ref a_mt, .ref a_mf])), (a_mq, .inl (kA, 16, .inl mqF)), (a_mr, .inl (kA, 4, .inl y15_mrF'))] := hD
    refine lv_istore_n (lv' := [(2, .int r15), (0, .ref a_m), (1, .int p1)]) hx hb dX7_at_18 rfl hl (by decide) rfl (fun ls hl => ?_)
    refine lv_aload_n hx hb dX7_at_19 rfl (lv_at hl 1 rfl) ?_
    refine va_get (D := (dC, dI)) (ci := 7) (v := .ref a_mr) (C := RX7) (T := TX7) (N := 18) hx hb hts (fun _ h => List.mem_cons_of_mem _ (List.mem_append_right _ h)) hown hK hP 0 rfl rfl 12 (by decide) (hts (.fieldLink RX7 35 "RentOrBuyModel" "row" "[I") (List.mem_cons_of_mem _ (List.mem_append_left _ (List.mem_of_getElem? (i := 1) rfl)))) (fun _ h9 => h9) rfl dX7_at_20 ?_
    refine lv_iload_n hx hb dX7_at_23 rfl (lv_at hl 2 rfl) ?_
    refine lv_iconst (v := (1 : Int32)) hx hb dX7_at_24 (by decide +kernel) ?_
    refine lv_isub hx hb dX7_at_25 ?_
    obtain ⟨hi26, h⟩ := h
    refine va_iald hx hb hK hP 2 0 rfl rfl hi26 dX7_at_26 ?_
    rw [hQ]
    exact rt_i (y15_mrF') hx hb hr hlocks h hP hD hS dX7_at_27
  · replace h := h.2 c9
    refine lv_iconst (v := (-1 : Int32)) hx hb dX7_at_12 (by decide +kernel) ?_
    rw [hQ]
    exact rt_i (mrF) hx hb hr hlocks h hP hD hS dX7_at_13

/-- RentOrBuyModel.comesOf -/
def rmX7_comesOf : Room := { frames := 1, cells := 0, slots := 0, locals := 23 }
set_option maxHeartbeats 4000000 in
set_option maxRecDepth 100000 in
theorem c_X7_comesOf (l : Launch) (dC : Nat → ClassId) (dI : Nat → Nat → Nat) (kA : ClassId) (a_m a_mo a_mp a_me a_mq a_mr a_ml a_mt a_mf : Nat) (sz : Nat) (mkd : Int32) (mrt : Int32) (mri : Int32) (mca : Int32) (mpr : Int32) (men : Int32) (mth : Int32) (mrq : Int32) (mtr : Int64) (mos : Int32) (moF : Nat → Int32) (p1 : Int32) (p2 : Int32) (p3 : Int32) (K : Int32 → Prop) (hg : g_X7_comesOf mkd mrt mri mca mpr men mth mrq mtr mos moF p1 p2 p3 K) : Met l yX7_comesOf wsX7_comesOf rmX7_comesOf (va_Pc [.ref a_m, .int p1, .int p2, .int p3] (prW (dC, dI) kA sz [(a_m, .inr (7, [.int mkd, .int mrt, .int mri, .int mca, .int mpr, .int men, .ref a_mp, .ref a_me, .int mth, .int mrq, .ref a_mq, .long mtr, .ref a_mr, .ref a_mo, .int mos, .ref a_ml, .ref a_mt, .ref a_mf])), (a_mo, .inl (kA, 96, .inl moF))])) (va_Qi (fun (r : Int32) (u : Unit) => K r) (poW (dC, dI) (va_A [(a_m, .inr (7, [.int mkd, .int mrt, .int mri, .int mca, .int mpr, .int men, .ref a_mp, .ref a_me, .int mth, .int mrq, .ref a_mq, .long mtr, .ref a_mr, .ref a_mo, .int mos, .ref a_ml, .ref a_mt, .ref a_mf])), (a_mo, .inl (kA, 96, .inl moF))] sz) (fun (u : Unit) => [(a_m, .inr (7, [.int mkd, .int mrt, .int mri, .int mca, .int mpr, .int men, .ref a_mp, .ref a_me, .int mth, .int mrq, .ref a_mq, .long mtr, .ref a_mr, .ref a_mo, .int mos, .ref a_ml, .ref a_mt, .ref a_mf])), (a_mo, .inl (kA, 96, .inl moF))])) (va_A [(a_m, .inr (7, [.int mkd, .int mrt, .int mri, .int mca, .int mpr, .int men, .ref a_mp, .ref a_me, .int mth, .int mrq, .ref a_mq, .long mtr, .ref a_mr, .ref a_mo, .int mos, .ref a_ml, .ref a_mt, .ref a_mf])), (a_mo, .inl (kA, 96, .inl moF))] sz)) 0 0 (va_A [(a_m, .inr (7, [.int mkd, .int mrt, .int mri, .int mca, .int mpr, .int men, .ref a_mp, .ref a_me, .int mth, .int mrq, .ref a_mq, .long mtr, .ref a_mr, .ref a_mo, .int mos, .ref a_ml, .ref a_mt, .ref a_mf])), (a_mo, .inl (kA, 96, .inl moF))] sz) := by
  refine Met.ofW (cc := cX7_comesOf) (maxL := 8) (ret := (some .boolean)) (by decide) rfl ?_
  intro p e s m args below meth c s₁ B hml hv
  obtain ⟨hargs, hsz, hP, hK, hD0, hN⟩ := hv
  have hx := B.exec
  have hb := B.bytes
  have hr := B.returns
  have hts := atoms_spec (ws := wsX7_comesOf) B.pre
  have hown : s.vm.findClass RX7 = some m.cls := findClass_of_methodNamed B.named
  have hlocks := B.notSynchronized
  subst hsz
  have hD := hD0.self (sz := s.heap.size)
  generalize hAe : va_A [(a_m, .inr (7, [.int mkd, .int mrt, .int mri, .int mca, .int mpr, .int men, .ref a_mp, .ref a_me, .int mth, .int mrq, .ref a_mq, .long mtr, .ref a_mr, .ref a_mo, .int mos, .ref a_ml, .ref a_mt, .ref a_mf])), (a_mo, .inl (kA, 96, .inl moF))] s.heap.size = A at hD ⊢
  have hA : ∀ q : Nat, s.heap.size ≤ q → A q := fun q h => by rw [← hAe]; exact Or.inr h
  have hS : va_S A s.heap s.heap [] := va_S.rf
  obtain ⟨Q, hQ⟩ : ∃ Q : State → Prop, Q = MQ below (va_Qi (fun (r : Int32) (u : Unit) => K r) (poW (dC, dI) A (fun (u : Unit) => [(a_m, .inr (7, [.int mkd, .int mrt, .int mri, .int mca, .int mpr, .int men, .ref a_mp, .ref a_me, .int mth, .int mrq, .ref a_mq, .long mtr, .ref a_mr, .ref a_mo, .int mos, .ref a_ml, .ref a_mt, .ref a_mf])), (a_mo, .inl (kA, 96, .inl moF))])) A) args s 0 0 A := ⟨_, rfl⟩
  rw [← hQ]
  have hP : va_P (dC, dI) vwCl [(a_m, .inr (7, [.int mkd, .int mrt, .int mri, .int mca, .int mpr, .int men, .ref a_mp, .ref a_me, .int mth, .int mrq, .ref a_mq, .long mtr, .ref a_mr, .ref a_mo, .int mos, .ref a_ml, .ref a_mt, .ref a_mf])), (a_mo, .inl (kA, 96, .inl moF))] s.heap := hP
  refine en_ok hargs (Nat.le_of_ble_eq_true rfl) (fun ls hl => ?_)
  have hl : lv_has ls 8 [(0, .ref a_m), (1, .int p1), (2, .int p2), (3, .int p3)] := hl
  have h := hg
  unfold g_X7_comesOf at h
  refine lv_aload_n hx hb dX7_comesOf_0 rfl (lv_at hl 0 rfl) ?_
  refine lv_iload_n hx hb dX7_comesOf_1 rfl (lv_at hl 2 rfl) ?_
  refine lv_iload_n hx hb dX7_comesOf_2 rfl (lv_at hl 3 rfl) ?_
  have hPc := hP.sub (ws' := [(a_m, .inr (7, [.int mkd, .int mrt, .int mri, .int mca, .int mpr, .int men, .ref a_mp, .ref a_me, .int mth, .int mrq, .ref a_mq, .long mtr, .ref a_mr, .ref a_mo, .int mos, .ref a_ml, .ref a_mt, .ref a_mf])), (a_mo, .inl (kA, 96, .inl moF))]) [0, 1] rfl
  have hDc := hD.sub (ws' := [(a_m, .inr (7, [.int mkd, .int mrt, .int mri, .int mca, .int mpr, .int men, .ref a_mp, .ref a_me, .int mth, .int mrq, .ref a_mq, .long mtr, .ref a_mr, .ref a_mo, .int mos, .ref a_ml, .ref a_mt, .ref a_mf])), (a_mo, .inl (kA, 96, .inl moF))]) [0, 1] (by decide) rfl
  refine fr_i (wr := []) (WN := fun (u3 : Unit) => [(a_m, .inr (7, [.int mkd, .int mrt, .int mri, .int mca, .int mpr, .int men, .ref a_mp, .ref a_me, .int mth, .int mrq, .ref a_mq, .long mtr, .ref a_mr, .ref a_mo, .int mos, .ref a_ml, .ref a_mt, .ref a_mf])), (a_mo, .inl (kA, 96, .inl moF))]) (va_runV (As := [.int p2, .int p3]) (rest := []) ⟨hx, hb, hml, hown, hts⟩ (c_X7_placeIn l dC dI kA a_m a_mo a_mp a_me a_mq a_mr a_ml a_mt a_mf s.heap.size mkd mrt mri mca mpr men mth mrq mtr mos moF p2 p3 _ h) (cwV 2 hts gX7_comesOf_X7_placeIn rfl rfl rfl (by decide +kernel) ⟨Nat.le_of_ble_eq_true rfl, Nat.le_of_ble_eq_true rfl⟩) (prW.preV (ci := 7) (q0 := 0) hPc hDc hK hN rfl rfl) rfl rfl hl.1 rfl (lv_room (Nat.le_of_ble_eq_true rfl)) dX7_comesOf_3 ⟨Nat.le_of_ble_eq_true rfl, Nat.le_of_ble_eq_true rfl⟩) hP hD hS hA [0, 1] [] rfl rfl (by decide) (by decide) [0, 1] (by decide) (fun _ => rfl) (fun r3 u3 H locs h hP hD hS => ?_)
  have hP : va_P (dC, dI) vwCl [(a_m, .inr (7, [.int mkd, .int mrt, .int mri, .int mca, .int mpr, .int men, .ref a_mp, .ref a_me, .int mth, .int mrq, .ref a_mq, .long mtr, .ref a_mr, .ref a_mo, .int mos, .ref a_ml, .ref a_mt, .ref a_mf])), (a_mo, .inl (kA, 96, .inl moF))] H := hP
  have hD : va_D A [(a_m, .inr (7, [.int mkd, .int mrt, .int mri, .int mca, .int mpr, .int men, .ref a_mp, .ref a_me, .int mth, .int mrq, .ref a_mq, .long mtr, .ref a_mr, .ref a_mo, .int mos, .ref a_ml, .ref a_mt, .ref a_mf])), (a_mo, .inl (kA, 96, .inl moF))] := hD
  refine lv_aload_n hx hb dX7_comesOf_6 rfl (lv_at hl 0 rfl) ?_
  refine lv_iload_n hx hb dX7_comesOf_7 rfl (lv_at hl 1 rfl) ?_
  refine lv_iload_n hx hb dX7_comesOf_8 rfl (lv_at hl 3 rfl) ?_
  have hPc := hP.sub (ws' := [(a_m, .inr (7, [.int mkd, .int mrt, .int mri, .int mca, .int mpr, .int men, .ref a_mp, .ref a_me, .int mth, .int mrq, .ref a_mq, .long mtr, .ref a_mr, .ref a_mo, .int mos, .ref a_ml, .ref a_mt, .ref a_mf])), (a_mo, .inl (kA, 96, .inl moF))]) [0, 1] rfl
  have hDc := hD.sub (ws' := [(a_m, .inr (7, [.int mkd, .int mrt, .int mri, .int mca, .int mpr, .int men, .ref a_mp, .ref a_me, .int mth, .int mrq, .ref a_mq, .long mtr, .ref a_mr, .ref a_mo, .int mos, .ref a_ml, .ref a_mt, .ref a_mf])), (a_mo, .inl (kA, 96, .inl moF))]) [0, 1] (by decide) rfl
  refine fr_i (wr := []) (WN := fun (u9 : Unit) => [(a_m, .inr (7, [.int mkd, .int mrt, .int mri, .int mca, .int mpr, .int men, .ref a_mp, .ref a_me, .int mth, .int mrq, .ref a_mq, .long mtr, .ref a_mr, .ref a_mo, .int mos, .ref a_ml, .ref a_mt, .ref a_mf])), (a_mo, .inl (kA, 96, .inl moF))]) (va_runV (As := [.int p1, .int p3]) (rest := [.int r3]) ⟨hx, hb, hml, hown, hts⟩ (c_X7_placeIn l dC dI kA a_m a_mo a_mp a_me a_mq a_mr a_ml a_mt a_mf H.size mkd mrt mri mca mpr men mth mrq mtr mos moF p1 p3 _ h) (cwV 2 hts gX7_comesOf_X7_placeIn rfl rfl rfl (by decide +kernel) ⟨Nat.le_of_ble_eq_true rfl, Nat.le_of_ble_eq_true rfl⟩) (prW.preV (ci := 7) (q0 := 0) hPc hDc hK hN rfl rfl) rfl rfl hl.1 rfl (lv_room (Nat.le_of_ble_eq_true rfl)) dX7_comesOf_9 ⟨Nat.le_of_ble_eq_true rfl, Nat.le_of_ble_eq_true rfl⟩) hP hD hS hA [0, 1] [] rfl rfl (by decide) (by decide) [0, 1] (by decide) (fun _ => rfl) (fun r9 u9 H locs h hP hD hS => ?_)
  have hP : va_P (dC, dI) vwCl [(a_m, .inr (7, [.int mkd, .int mrt, .int mri, .int mca, .int mpr, .int men, .ref a_mp, .ref a_me, .int mth, .int mrq, .ref a_mq, .long mtr, .ref a_mr, .ref a_mo, .int mos, .ref a_ml, .ref a_mt, .ref a_mf])), (a_mo, .inl (kA, 96, .inl moF))] H := hP
  have hD : va_D A [(a_m, .inr (7, [.int mkd, .int mrt, .int mri, .int mca, .int mpr, .int men, .ref a_mp, .ref a_me, .int mth, .int mrq, .ref a_mq, .long mtr, .ref a_mr, .ref a_mo, .int mos, .ref a_ml, .ref a_mt, .ref a_mf])), (a_mo, .inl (kA, 96, .inl moF))] := hD
  obtain ⟨J20, hR20, h⟩ := h
  have hJ20 : ∀ (t0_20 : Int32), J20 t0_20 → ∀ (H : Heap) (locs : List Loc) (ls : Array Slot), va_P (dC, dI) vwCl [(a_m, .inr (7, [.int mkd, .int mrt, .int mri, .int mca, .int mpr, .int men, .ref a_mp, .ref a_me, .int mth, .int mrq, .ref a_mq, .long mtr, .ref a_mr, .ref a_mo, .int mos, .ref a_ml, .ref a_mt, .ref a_mf])), (a_mo, .inl (kA, 96, .inl moF))] H → va_D A [(a_m, .inr (7, [.int mkd, .int mrt, .int mri, .int mca, .int mpr, .int men, .ref a_mp, .ref a_me, .int mth, .int mrq, .ref a_mq, .long mtr, .ref a_mr, .ref a_mo, .int mos, .ref a_ml, .ref a_mt, .ref a_mf])), (a_mo, .inl (kA, 96, .inl moF))] → va_S A s.heap H locs → lv_has ls 8 [(0, .ref a_m), (1, .int p1), (2, .int p2), (3, .int p3)] → W p l e (headSpec wsX7_comesOf rmX7_comesOf).room s m args below meth c H locs 0 0 Q (F0 m 20 ls [.int t0_20]) := by
    intro t0_20 h H locs ls hP hD hS hl
    replace h := hR20 t0_20 h
    refine lv_istore (lv' := [(4, .int t0_20), (0, .ref a_m), (1, .int p1), (2, .int p2), (3, .int p3)]) hx hb dX7_comesOf_20 hl (by decide) rfl (fun ls hl => ?_)
    refine lv_iconst (v := (0 : Int32)) hx hb dX7_comesOf_22 (by decide +kernel) ?_
    refine lv_istore (lv' := [(5, .int (0 : Int32)), (4, .int t0_20), (0, .ref a_m), (1, .int p1), (2, .int p2), (3, .int p3)]) hx hb dX7_comesOf_23 hl (by decide) rfl (fun ls hl => ?_)
    obtain ⟨J25, ⟨n25, h⟩, hz25, hs25⟩ := h
    have hL25 : ∀ (n25 : Nat) (v4_25 : Int32) (v5_25 : Int32), J25 n25 v4_25 v5_25 → ∀ (H : Heap) (locs : List Loc) (ls : Array Slot), va_P (dC, dI) vwCl [(a_m, .inr (7, [.int mkd, .int mrt, .int mri, .int mca, .int mpr, .int men, .ref a_mp, .ref a_me, .int mth, .int mrq, .ref a_mq, .long mtr, .ref a_mr, .ref a_mo, .int mos, .ref a_ml, .ref a_mt, .ref a_mf])), (a_mo, .inl (kA, 96, .inl moF))] H → va_D A [(a_m, .inr (7, [.int mkd, .int mrt, .int mri, .int mca, .int mpr, .int men, .ref a_mp, .ref a_me, .int mth, .int mrq, .ref a_mq, .long mtr, .ref a_mr, .ref a_mo, .int mos, .ref a_ml, .ref a_mt, .ref a_mf])), (a_mo, .inl (kA, 96, .inl moF))] → va_S A s.heap H locs → lv_has ls 8 [(0, .ref a_m), (1, .int p1), (2, .int p2), (3, .int p3), (4, .int v4_25), (5, .int v5_25)] → W p l e (headSpec wsX7_comesOf rmX7_comesOf).room s m args below meth c H locs 0 0 Q (F0 m 25 ls []) := by
      intro n25
      induction n25 with
      | zero => intro v4_25 v5_25 h; exact absurd h (hz25 v4_25 v5_25)
      | succ n25 ih25 =>
        intro v4_25 v5_25 h H locs ls hP hD hS hl
        replace h := hs25 n25 v4_25 v5_25 h
        refine lv_iload hx hb dX7_comesOf_25 (lv_at hl 5 rfl) ?_
        refine lv_aload_n hx hb dX7_comesOf_27 rfl (lv_at hl 0 rfl) ?_
        refine va_get (D := (dC, dI)) (ci := 7) (v := .int mth) (C := RX7) (T := TX7) (N := 18) hx hb hts (fun _ h => List.mem_cons_of_mem _ (List.mem_append_right _ h)) hown hK hP 0 rfl rfl 8 (by decide) (hts (.fieldLink RX7 29 "RentOrBuyModel" "things" "I") (List.mem_cons_of_mem _ (List.mem_append_left _ (List.mem_of_getElem? (i := 0) rfl)))) (fun _ h9 => h9) rfl dX7_comesOf_28 ?_
        refine lv_icmp_ge (tgt := 139) hx hb dX7_comesOf_31 (by decide) (fun c31 => ?_) (fun c31 => ?_)
        · replace h := h.1 c31
          refine lv_iload hx hb dX7_comesOf_139 (lv_at hl 4 rfl) ?_
          obtain ⟨hzz, h⟩ := h
          rw [hQ]
          exact rt_z () hx hb hr hlocks hzz h hP hD hS dX7_comesOf_141
        · replace h := h.2 c31
          refine lv_iconst (v := (0 : Int32)) hx hb dX7_comesOf_34 (by decide +kernel) ?_
          refine lv_istore (lv' := [(6, .int (0 : Int32)), (0, .ref a_m), (1, .int p1), (2, .int p2), (3, .int p3), (4, .int v4_25), (5, .int v5_25)]) hx hb dX7_comesOf_35 hl (by decide) rfl (fun ls hl => ?_)
          obtain ⟨J37, ⟨n37, h⟩, hz37, hs37⟩ := h
          have hL37 : ∀ (n37 : Nat) (v4_37 : Int32) (v6_37 : Int32), J37 n37 v4_37 v6_37 → ∀ (H : Heap) (locs : List Loc) (ls : Array Slot), va_P (dC, dI) vwCl [(a_m, .inr (7, [.int mkd, .int mrt, .int mri, .int mca, .int mpr, .int men, .ref a_mp, .ref a_me, .int mth, .int mrq, .ref a_mq, .long mtr, .ref a_mr, .ref a_mo, .int mos, .ref a_ml, .ref a_mt, .ref a_mf])), (a_mo, .inl (kA, 96, .inl moF))] H → va_D A [(a_m, .inr (7, [.int mkd, .int mrt, .int mri, .int mca, .int mpr, .int men, .ref a_mp, .ref a_me, .int mth, .int mrq, .ref a_mq, .long mtr, .ref a_mr, .ref a_mo, .int mos, .ref a_ml, .ref a_mt, .ref a_mf])), (a_mo, .inl (kA, 96, .inl moF))] → va_S A s.heap H locs → lv_has ls 8 [(0, .ref a_m), (1, .int p1), (2, .int p2), (3, .int p3), (4, .int v4_37), (5, .int v5_25), (6, .int v6_37)] → W p l e (headSpec wsX7_comesOf rmX7_comesOf).room s m args below meth c H locs 0 0 Q (F0 m 37 ls []) := by
            intro n37
            induction n37 with
            | zero => intro v4_37 v6_37 h; exact absurd h (hz37 v4_37 v6_37)
            | succ n37 ih37 =>
              intro v4_37 v6_37 h H locs ls hP hD hS hl
              replace h := hs37 n37 v4_37 v6_37 h
              refine lv_iload hx hb dX7_comesOf_37 (lv_at hl 6 rfl) ?_
              refine lv_iload hx hb dX7_comesOf_39 (lv_at hl 5 rfl) ?_
              refine lv_icmp_ge (tgt := 133) hx hb dX7_comesOf_41 (by decide) (fun c41 => ?_) (fun c41 => ?_)
              · replace h := h.1 c41
                refine lv_iinc (v := (v5_25 + (1 : Int32))) (lv' := [(5, .int (v5_25 + (1 : Int32))), (0, .ref a_m), (1, .int p1), (2, .int p2), (3, .int p3), (4, .int v4_37), (6, .int v6_37)]) hx hb dX7_comesOf_133 hl (k := 5) rfl (by rfl) (by decide) rfl (fun ls hl => ?_)
                refine lv_goto (tgt := 25) hx hb dX7_comesOf_136 (by decide) ?_
                exact ih25 v4_37 (v5_25 + (1 : Int32)) h _ _ _ hP hD hS (lv_sub hl [1, 2, 3, 4, 5, 0] rfl)
              · replace h := h.2 c41
                refine lv_iload hx hb dX7_comesOf_44 (lv_at hl 5 rfl) ?_
                refine lv_iload_n hx hb dX7_comesOf_46 rfl (lv_at hl 3 rfl) ?_
                obtain ⟨J61, hR61, h⟩ := h
                have hJ61 : ∀ (t0_61 : Int32), J61 t0_61 → ∀ (H : Heap) (locs : List Loc) (ls : Array Slot), va_P (dC, dI) vwCl [(a_m, .inr (7, [.int mkd, .int mrt, .int mri, .int mca, .int mpr, .int men, .ref a_mp, .ref a_me, .int mth, .int mrq, .ref a_mq, .long mtr, .ref a_mr, .ref a_mo, .int mos, .ref a_ml, .ref a_mt, .ref a_mf])), (a_mo, .inl (kA, 96, .inl moF))] H → va_D A [(a_m, .inr (7, [.int mkd, .int mrt, .int mri, .int mca, .int mpr, .int men, .ref a_mp, .ref a_me, .int mth, .int mrq, .ref a_mq, .long mtr, .ref a_mr, .ref a_mo, .int mos, .ref a_ml, .ref a_mt, .ref a_mf])), (a_mo, .inl (kA, 96, .inl moF))] → va_S A s.heap H locs → lv_has ls 8 [(0, .ref a_m), (1, .int p1), (2, .int p2), (3, .int p3), (4, .int v4_37), (5, .int v5_25), (6, .int v6_37)] → W p l e (headSpec wsX7_comesOf rmX7_comesOf).room s m args below meth c H locs 0 0 Q (F0 m 61 ls [.int t0_61]) := by
                  intro t0_61 h H locs ls hP hD hS hl
                  replace h := hR61 t0_61 h
                  refine lv_istore (lv' := [(7, .int t0_61), (0, .ref a_m), (1, .int p1), (2, .int p2), (3, .int p3), (4, .int v4_37), (5, .int v5_25), (6, .int v6_37)]) hx hb dX7_comesOf_61 hl (by decide) rfl (fun ls hl => ?_)
                  refine lv_iload hx hb dX7_comesOf_63 (lv_at hl 5 rfl) ?_
                  obtain ⟨J125, hR125, h⟩ := h
                  have hJ125 : ∀ (t0_125 : Int32), J125 t0_125 → ∀ (H : Heap) (locs : List Loc) (ls : Array Slot), va_P (dC, dI) vwCl [(a_m, .inr (7, [.int mkd, .int mrt, .int mri, .int mca, .int mpr, .int men, .ref a_mp, .ref a_me, .int mth, .int mrq, .ref a_mq, .long mtr, .ref a_mr, .ref a_mo, .int mos, .ref a_ml, .ref a_mt, .ref a_mf])), (a_mo, .inl (kA, 96, .inl moF))] H → va_D A [(a_m, .inr (7, [.int mkd, .int mrt, .int mri, .int mca, .int mpr, .int men, .ref a_mp, .ref a_me, .int mth, .int mrq, .ref a_mq, .long mtr, .ref a_mr, .ref a_mo, .int mos, .ref a_ml, .ref a_mt, .ref a_mf])), (a_mo, .inl (kA, 96, .inl moF))] → va_S A s.heap H locs → lv_has ls 8 [(0, .ref a_m), (1, .int p1), (2, .int p2), (3, .int p3), (5, .int v5_25), (6, .int v6_37)] → W p l e (headSpec wsX7_comesOf rmX7_comesOf).room s m args below meth c H locs 0 0 Q (F0 m 125 ls [.int t0_125]) := by
                    intro t0_125 h H locs ls hP hD hS hl
                    replace h := hR125 t0_125 h
                    refine lv_istore (lv' := [(4, .int t0_125), (0, .ref a_m), (1, .int p1), (2, .int p2), (3, .int p3), (5, .int v5_25), (6, .int v6_37)]) hx hb dX7_comesOf_125 hl (by decide) rfl (fun ls hl => ?_)
                    refine lv_iinc (v := (v6_37 + (1 : Int32))) (lv' := [(6, .int (v6_37 + (1 : Int32))), (4, .int t0_125), (0, .ref a_m), (1, .int p1), (2, .int p2), (3, .int p3), (5, .int v5_25)]) hx hb dX7_comesOf_127 hl (k := 6) rfl (by rfl) (by decide) rfl (fun ls hl => ?_)
                    refine lv_goto (tgt := 37) hx hb dX7_comesOf_130 (by decide) ?_
                    exact ih37 t0_125 (v6_37 + (1 : Int32)) h _ _ _ hP hD hS (lv_sub hl [2, 3, 4, 5, 1, 6, 0] rfl)
                  obtain ⟨J124, hR124, h⟩ := h
                  have hJ124 : J124 → ∀ (H : Heap) (locs : List Loc) (ls : Array Slot), va_P (dC, dI) vwCl [(a_m, .inr (7, [.int mkd, .int mrt, .int mri, .int mca, .int mpr, .int men, .ref a_mp, .ref a_me, .int mth, .int mrq, .ref a_mq, .long mtr, .ref a_mr, .ref a_mo, .int mos, .ref a_ml, .ref a_mt, .ref a_mf])), (a_mo, .inl (kA, 96, .inl moF))] H → va_D A [(a_m, .inr (7, [.int mkd, .int mrt, .int mri, .int mca, .int mpr, .int men, .ref a_mp, .ref a_me, .int mth, .int mrq, .ref a_mq, .long mtr, .ref a_mr, .ref a_mo, .int mos, .ref a_ml, .ref a_mt, .ref a_mf])), (a_mo, .inl (kA, 96, .inl moF))] → va_S A s.heap H locs → lv_has ls 8 [(0, .ref a_m), (1, .int p1), (2, .int p2), (3, .int p3), (5, .int v5_25), (6, .int v6_37)] → W p l e (headSpec wsX7_comesOf rmX7_comesOf).room s m args below meth c H locs 0 0 Q (F0 m 124 ls []) := by
                    intro  h H locs ls hP hD hS hl
                    replace h := hR124  h
                    refine lv_iconst (v := (0 : Int32)) hx hb dX7_comesOf_124 (by decide +kernel) ?_
                    exact hJ125 (0 : Int32) h _ _ _ hP hD hS (lv_sub hl [0, 1, 2, 3, 4, 5] rfl)
                  refine lv_if_eq (tgt := 124) hx hb dX7_comesOf_65 (by decide) (fun c65 => ?_) (fun c65 => ?_)
                  · replace h := h.1 c65
                    exact hJ124 h _ _ _ hP hD hS (lv_sub hl [1, 2, 3, 4, 6, 7] rfl)
                  · replace h := h.2 c65
                    refine lv_iload hx hb dX7_comesOf_68 (lv_at hl 0 rfl) ?_
                    obtain ⟨J120, hR120, h⟩ := h
                    have hJ120 : J120 → ∀ (H : Heap) (locs : List Loc) (ls : Array Slot), va_P (dC, dI) vwCl [(a_m, .inr (7, [.int mkd, .int mrt, .int mri, .int mca, .int mpr, .int men, .ref a_mp, .ref a_me, .int mth, .int mrq, .ref a_mq, .long mtr, .ref a_mr, .ref a_mo, .int mos, .ref a_ml, .ref a_mt, .ref a_mf])), (a_mo, .inl (kA, 96, .inl moF))] H → va_D A [(a_m, .inr (7, [.int mkd, .int mrt, .int mri, .int mca, .int mpr, .int men, .ref a_mp, .ref a_me, .int mth, .int mrq, .ref a_mq, .long mtr, .ref a_mr, .ref a_mo, .int mos, .ref a_ml, .ref a_mt, .ref a_mf])), (a_mo, .inl (kA, 96, .inl moF))] → va_S A s.heap H locs → lv_has ls 8 [(0, .ref a_m), (1, .int p1), (2, .int p2), (3, .int p3), (5, .int v5_25), (6, .int v6_37)] → W p l e (headSpec wsX7_comesOf rmX7_comesOf).room s m args below meth c H locs 0 0 Q (F0 m 120 ls []) := by
                      intro  h H locs ls hP hD hS hl
                      replace h := hR120  h
                      refine lv_iconst (v := (1 : Int32)) hx hb dX7_comesOf_120 (by decide +kernel) ?_
                      refine lv_goto (tgt := 125) hx hb dX7_comesOf_121 (by decide) ?_
                      exact hJ125 (1 : Int32) h _ _ _ hP hD hS (lv_sub hl [0, 1, 2, 3, 4, 5] rfl)
                    refine lv_if_eq (tgt := 120) hx hb dX7_comesOf_70 (by decide) (fun c70 => ?_) (fun c70 => ?_)
                    · replace h := h.1 c70
                      exact hJ120 h _ _ _ hP hD hS (lv_sub hl [1, 2, 3, 4, 6, 7] rfl)
                    · replace h := h.2 c70
                      refine lv_aload_n hx hb dX7_comesOf_73 rfl (lv_at hl 1 rfl) ?_
                      refine lv_iload_n hx hb dX7_comesOf_74 rfl (lv_at hl 2 rfl) ?_
                      refine lv_iload hx hb dX7_comesOf_75 (lv_at hl 6 rfl) ?_
                      have hPc := hP.sub (ws' := [(a_m, .inr (7, [.int mkd, .int mrt, .int mri, .int mca, .int mpr, .int men, .ref a_mp, .ref a_me, .int mth, .int mrq, .ref a_mq, .long mtr, .ref a_mr, .ref a_mo, .int mos, .ref a_ml, .ref a_mt, .ref a_mf])), (a_mo, .inl (kA, 96, .inl moF))]) [0, 1] rfl
                      have hDc := hD.sub (ws' := [(a_m, .inr (7, [.int mkd, .int mrt, .int mri, .int mca, .int mpr, .int men, .ref a_mp, .ref a_me, .int mth, .int mrq, .ref a_mq, .long mtr, .ref a_mr, .ref a_mo, .int mos, .ref a_ml, .ref a_mt, .ref a_mf])), (a_mo, .inl (kA, 96, .inl moF))]) [0, 1] (by decide) rfl
                      refine fr_i (wr := []) (WN := fun (u77 : Unit) => [(a_m, .inr (7, [.int mkd, .int mrt, .int mri, .int mca, .int mpr, .int men, .ref a_mp, .ref a_me, .int mth, .int mrq, .ref a_mq, .long mtr, .ref a_mr, .ref a_mo, .int mos, .ref a_ml, .ref a_mt, .ref a_mf])), (a_mo, .inl (kA, 96, .inl moF))]) (va_runV (As := [.int p1, .int v5_25]) (rest := []) ⟨hx, hb, hml, hown, hts⟩ (c_X7_placeIn l dC dI kA a_m a_mo a_mp a_me a_mq a_mr a_ml a_mt a_mf H.size mkd mrt mri mca mpr men mth mrq mtr mos moF p1 v5_25 _ h) (cwV 2 hts gX7_comesOf_X7_placeIn rfl rfl rfl (by decide +kernel) ⟨Nat.le_of_ble_eq_true rfl, Nat.le_of_ble_eq_true rfl⟩) (prW.preV (ci := 7) (q0 := 0) hPc hDc hK hN rfl rfl) rfl rfl hl.1 rfl (lv_room (Nat.le_of_ble_eq_true rfl)) dX7_comesOf_77 ⟨Nat.le_of_ble_eq_true rfl, Nat.le_of_ble_eq_true rfl⟩) hP hD hS hA [0, 1] [] rfl rfl (by decide) (by decide) [0, 1] (by decide) (fun _ => rfl) (fun r77 u77 H locs h hP hD hS => ?_)
                      have hP : va_P (dC, dI) vwCl [(a_m, .inr (7, [.int mkd, .int mrt, .int mri, .int mca, .int mpr, .int men, .ref a_mp, .ref a_me, .int mth, .int mrq, .ref a_mq, .long mtr, .ref a_mr, .ref a_mo, .int mos, .ref a_ml, .ref a_mt, .ref a_mf])), (a_mo, .inl (kA, 96, .inl moF))] H := hP
                      have hD : va_D A [(a_m, .inr (7, [.int mkd, .int mrt, .int mri, .int mca, .int mpr, .int men, .ref a_mp, .ref a_me, .int mth, .int mrq, .ref a_mq, .long mtr, .ref a_mr, .ref a_mo, .int mos, .ref a_ml, .ref a_mt, .ref a_mf])), (a_mo, .inl (kA, 96, .inl moF))] := hD
                      refine lv_aload_n hx hb dX7_comesOf_80 rfl (lv_at hl 1 rfl) ?_
                      refine lv_iload_n hx hb dX7_comesOf_81 rfl (lv_at hl 2 rfl) ?_
                      refine lv_iload hx hb dX7_comesOf_82 (lv_at hl 7 rfl) ?_
                      have hPc := hP.sub (ws' := [(a_m, .inr (7, [.int mkd, .int mrt, .int mri, .int mca, .int mpr, .int men, .ref a_mp, .ref a_me, .int mth, .int mrq, .ref a_mq, .long mtr, .ref a_mr, .ref a_mo, .int mos, .ref a_ml, .ref a_mt, .ref a_mf])), (a_mo, .inl (kA, 96, .inl moF))]) [0, 1] rfl
                      have hDc := hD.sub (ws' := [(a_m, .inr (7, [.int mkd, .int mrt, .int mri, .int mca, .int mpr, .int men, .ref a_mp, .ref a_me, .int mth, .int mrq, .ref a_mq, .long mtr, .ref a_mr, .ref a_mo, .int mos, .ref a_ml, .ref a_mt, .ref a_mf])), (a_mo, .inl (kA, 96, .inl moF))]) [0, 1] (by decide) rfl
                      refine fr_i (wr := []) (WN := fun (u84 : Unit) => [(a_m, .inr (7, [.int mkd, .int mrt, .int mri, .int mca, .int mpr, .int men, .ref a_mp, .ref a_me, .int mth, .int mrq, .ref a_mq, .long mtr, .ref a_mr, .ref a_mo, .int mos, .ref a_ml, .ref a_mt, .ref a_mf])), (a_mo, .inl (kA, 96, .inl moF))]) (va_runV (As := [.int p1, .int v6_37]) (rest := [.int r77]) ⟨hx, hb, hml, hown, hts⟩ (c_X7_placeIn l dC dI kA a_m a_mo a_mp a_me a_mq a_mr a_ml a_mt a_mf H.size mkd mrt mri mca mpr men mth mrq mtr mos moF p1 v6_37 _ h) (cwV 2 hts gX7_comesOf_X7_placeIn rfl rfl rfl (by decide +kernel) ⟨Nat.le_of_ble_eq_true rfl, Nat.le_of_ble_eq_true rfl⟩) (prW.preV (ci := 7) (q0 := 0) hPc hDc hK hN rfl rfl) rfl rfl hl.1 rfl (lv_room (Nat.le_of_ble_eq_true rfl)) dX7_comesOf_84 ⟨Nat.le_of_ble_eq_true rfl, Nat.le_of_ble_eq_true rfl⟩) hP hD hS hA [0, 1] [] rfl rfl (by decide) (by decide) [0, 1] (by decide) (fun _ => rfl) (fun r84 u84 H locs h hP hD hS => ?_)
                      have hP : va_P (dC, dI) vwCl [(a_m, .inr (7, [.int mkd, .int mrt, .int mri, .int mca, .int mpr, .int men, .ref a_mp, .ref a_me, .int mth, .int mrq, .ref a_mq, .long mtr, .ref a_mr, .ref a_mo, .int mos, .ref a_ml, .ref a_mt, .ref a_mf])), (a_mo, .inl (kA, 96, .inl moF))] H := hP
                      have hD : va_D A [(a_m, .inr (7, [.int mkd, .int mrt, .int mri, .int mca, .int mpr, .int men, .ref a_mp, .ref a_me, .int mth, .int mrq, .ref a_mq, .long mtr, .ref a_mr, .ref a_mo, .int mos, .ref a_ml, .ref a_mt, .ref a_mf])), (a_mo, .inl (kA, 96, .inl moF))] := hD
                      obtain ⟨J95, hR95, h⟩ := h
                      have hJ95 : ∀ (t0_95 : Int32), J95 t0_95 → ∀ (H : Heap) (locs : List Loc) (ls : Array Slot), va_P (dC, dI) vwCl [(a_m, .inr (7, [.int mkd, .int mrt, .int mri, .int mca, .int mpr, .int men, .ref a_mp, .ref a_me, .int mth, .int mrq, .ref a_mq, .long mtr, .ref a_mr, .ref a_mo, .int mos, .ref a_ml, .ref a_mt, .ref a_mf])), (a_mo, .inl (kA, 96, .inl moF))] H → va_D A [(a_m, .inr (7, [.int mkd, .int mrt, .int mri, .int mca, .int mpr, .int men, .ref a_mp, .ref a_me, .int mth, .int mrq, .ref a_mq, .long mtr, .ref a_mr, .ref a_mo, .int mos, .ref a_ml, .ref a_mt, .ref a_mf])), (a_mo, .inl (kA, 96, .inl moF))] → va_S A s.heap H locs → lv_has ls 8 [(0, .ref a_m), (1, .int p1), (2, .int p2), (3, .int p3), (5, .int v5_25), (6, .int v6_37)] → W p l e (headSpec wsX7_comesOf rmX7_comesOf).room s m args below meth c H locs 0 0 Q (F0 m 95 ls [.int t0_95]) := by
                        intro t0_95 h H locs ls hP hD hS hl
                        replace h := hR95 t0_95 h
                        refine lv_aload_n hx hb dX7_comesOf_95 rfl (lv_at hl 0 rfl) ?_
                        refine lv_iload_n hx hb dX7_comesOf_96 rfl (lv_at hl 2 rfl) ?_
                        refine lv_iload hx hb dX7_comesOf_97 (lv_at hl 4 rfl) ?_
                        have hPc := hP.sub (ws' := [(a_m, .inr (7, [.int mkd, .int mrt, .int mri, .int mca, .int mpr, .int men, .ref a_mp, .ref a_me, .int mth, .int mrq, .ref a_mq, .long mtr, .ref a_mr, .ref a_mo, .int mos, .ref a_ml, .ref a_mt, .ref a_mf])), (a_mo, .inl (kA, 96, .inl moF))]) [0, 1] rfl
                        have hDc := hD.sub (ws' := [(a_m, .inr (7, [.int mkd, .int mrt, .int mri, .int mca, .int mpr, .int men, .ref a_mp, .ref a_me, .int mth, .int mrq, .ref a_mq, .long mtr, .ref a_mr, .ref a_mo, .int mos, .ref a_ml, .ref a_mt, .ref a_mf])), (a_mo, .inl (kA, 96, .inl moF))]) [0, 1] (by decide) rfl
                        refine fr_i (wr := []) (WN := fun (u99 : Unit) => [(a_m, .inr (7, [.int mkd, .int mrt, .int mri, .int mca, .int mpr, .int men, .ref a_mp, .ref a_me, .int mth, .int mrq, .ref a_mq, .long mtr, .ref a_mr, .ref a_mo, .int mos, .ref a_ml, .ref a_mt, .ref a_mf])), (a_mo, .inl (kA, 96, .inl moF))]) (va_runV (As := [.int p2, .int v5_25]) (rest := [.int t0_95]) ⟨hx, hb, hml, hown, hts⟩ (c_X7_placeIn l dC dI kA a_m a_mo a_mp a_me a_mq a_mr a_ml a_mt a_mf H.size mkd mrt mri mca mpr men mth mrq mtr mos moF p2 v5_25 _ h) (cwV 2 hts gX7_comesOf_X7_placeIn rfl rfl rfl (by decide +kernel) ⟨Nat.le_of_ble_eq_true rfl, Nat.le_of_ble_eq_true rfl⟩) (prW.preV (ci := 7) (q0 := 0) hPc hDc hK hN rfl rfl) rfl rfl hl.1 rfl (lv_room (Nat.le_of_ble_eq_true rfl)) dX7_comesOf_99 ⟨Nat.le_of_ble_eq_true rfl, Nat.le_of_ble_eq_true rfl⟩) hP hD hS hA [0, 1] [] rfl rfl (by decide) (by decide) [0, 1] (by decide) (fun _ => rfl) (fun r99 u99 H locs h hP hD hS => ?_)
                        have hP : va_P (dC, dI) vwCl [(a_m, .inr (7, [.int mkd, .int mrt, .int mri, .int mca, .int mpr, .int men, .ref a_mp, .ref a_me, .int mth, .int mrq, .ref a_mq, .long mtr, .ref a_mr, .ref a_mo, .int mos, .ref a_ml, .ref a_mt, .ref a_mf])), (a_mo, .inl (kA, 96, .inl moF))] H := hP
                        have hD : va_D A [(a_m, .inr (7, [.int mkd, .int mrt, .int mri, .int mca, .int mpr, .int men, .ref a_mp, .ref a_me, .int mth, .int mrq, .ref a_mq, .long mtr, .ref a_mr, .ref a_mo, .int mos, .ref a_ml, .ref a_mt, .ref a_mf])), (a_mo, .inl (kA, 96, .inl moF))] := hD
                        refine lv_aload_n hx hb dX7_comesOf_102 rfl (lv_at hl 0 rfl) ?_
                        refine lv_iload_n hx hb dX7_comesOf_103 rfl (lv_at hl 2 rfl) ?_
                        refine lv_iload hx hb dX7_comesOf_104 (lv_at hl 5 rfl) ?_
                        have hPc := hP.sub (ws' := [(a_m, .inr (7, [.int mkd, .int mrt, .int mri, .int mca, .int mpr, .int men, .ref a_mp, .ref a_me, .int mth, .int mrq, .ref a_mq, .long mtr, .ref a_mr, .ref a_mo, .int mos, .ref a_ml, .ref a_mt, .ref a_mf])), (a_mo, .inl (kA, 96, .inl moF))]) [0, 1] rfl
                        have hDc := hD.sub (ws' := [(a_m, .inr (7, [.int mkd, .int mrt, .int mri, .int mca, .int mpr, .int men, .ref a_mp, .ref a_me, .int mth, .int mrq, .ref a_mq, .long mtr, .ref a_mr, .ref a_mo, .int mos, .ref a_ml, .ref a_mt, .ref a_mf])), (a_mo, .inl (kA, 96, .inl moF))]) [0, 1] (by decide) rfl
                        refine fr_i (wr := []) (WN := fun (u106 : Unit) => [(a_m, .inr (7, [.int mkd, .int mrt, .int mri, .int mca, .int mpr, .int men, .ref a_mp, .ref a_me, .int mth, .int mrq, .ref a_mq, .long mtr, .ref a_mr, .ref a_mo, .int mos, .ref a_ml, .ref a_mt, .ref a_mf])), (a_mo, .inl (kA, 96, .inl moF))]) (va_runV (As := [.int p2, .int v6_37]) (rest := [.int r99, .int t0_95]) ⟨hx, hb, hml, hown, hts⟩ (c_X7_placeIn l dC dI kA a_m a_mo a_mp a_me a_mq a_mr a_ml a_mt a_mf H.size mkd mrt mri mca mpr men mth mrq mtr mos moF p2 v6_37 _ h) (cwV 2 hts gX7_comesOf_X7_placeIn rfl rfl rfl (by decide +kernel) ⟨Nat.le_of_ble_eq_true rfl, Nat.le_of_ble_eq_true rfl⟩) (prW.preV (ci := 7) (q0 := 0) hPc hDc hK hN rfl rfl) rfl rfl hl.1 rfl (lv_room (Nat.le_of_ble_eq_true rfl)) dX7_comesOf_106 ⟨Nat.le_of_ble_eq_true rfl, Nat.le_of_ble_eq_true rfl⟩) hP hD hS hA [0, 1] [] rfl rfl (by decide) (by decide) [0, 1] (by decide) (fun _ => rfl) (fun r106 u106 H locs h hP hD hS => ?_)
                        have hP : va_P (dC, dI) vwCl [(a_m, .inr (7, [.int mkd, .int mrt, .int mri, .int mca, .int mpr, .int men, .ref a_mp, .ref a_me, .int mth, .int mrq, .ref a_mq, .long mtr, .ref a_mr, .ref a_mo, .int mos, .ref a_ml, .ref a_mt, .ref a_mf])), (a_mo, .inl (kA, 96, .inl moF))] H := hP
                        have hD : va_D A [(a_m, .inr (7, [.int mkd, .int mrt, .int mri, .int mca, .int mpr, .int men, .ref a_mp, .ref a_me, .int mth, .int mrq, .ref a_mq, .long mtr, .ref a_mr, .ref a_mo, .int mos, .ref a_ml, .ref a_mt, .ref a_mf])), (a_mo, .inl (kA, 96, .inl moF))] := hD
                        obtain ⟨J117, hR117, h⟩ := h
                        have hJ117 : ∀ (t0_117 : Int32), J117 t0_117 → ∀ (H : Heap) (locs : List Loc) (ls : Array Slot), va_P (dC, dI) vwCl [(a_m, .inr (7, [.int mkd, .int mrt, .int mri, .int mca, .int mpr, .int men, .ref a_mp, .ref a_me, .int mth, .int mrq, .ref a_mq, .long mtr, .ref a_mr, .ref a_mo, .int mos, .ref a_ml, .ref a_mt, .ref a_mf])), (a_mo, .inl (kA, 96, .inl moF))] H → va_D A [(a_m, .inr (7, [.int mkd, .int mrt, .int mri, .int mca, .int mpr, .int men, .ref a_mp, .ref a_me, .int mth, .int mrq, .ref a_mq, .long mtr, .ref a_mr, .ref a_mo, .int mos, .ref a_ml, .ref a_mt, .ref a_mf])), (a_mo, .inl (kA, 96, .inl moF))] → va_S A s.heap H locs → lv_has ls 8 [(0, .ref a_m), (1, .int p1), (2, .int p2), (3, .int p3), (5, .int v5_25), (6, .int v6_37)] → W p l e (headSpec wsX7_comesOf rmX7_comesOf).room s m args below meth c H locs 0 0 Q (F0 m 117 ls [.int t0_117, .int t0_95]) := by
                          intro t0_117 h H locs ls hP hD hS hl
                          replace h := hR117 t0_117 h
                          refine lv_icmp_ne (tgt := 124) hx hb dX7_comesOf_117 (by decide) (fun c117 => ?_) (fun c117 => ?_)
                          · replace h := h.1 c117
                            exact hJ124 h _ _ _ hP hD hS (lv_sub hl [0, 1, 2, 3, 4, 5] rfl)
                          · replace h := h.2 c117
                            exact hJ120 h _ _ _ hP hD hS (lv_sub hl [0, 1, 2, 3, 4, 5] rfl)
                        refine lv_icmp_ge (tgt := 116) hx hb dX7_comesOf_109 (by decide) (fun c109 => ?_) (fun c109 => ?_)
                        · replace h := h.1 c109
                          refine lv_iconst (v := (0 : Int32)) hx hb dX7_comesOf_116 (by decide +kernel) ?_
                          exact hJ117 (0 : Int32) h _ _ _ hP hD hS (lv_sub hl [0, 1, 2, 3, 4, 5] rfl)
                        · replace h := h.2 c109
                          refine lv_iconst (v := (1 : Int32)) hx hb dX7_comesOf_112 (by decide +kernel) ?_
                          refine lv_goto (tgt := 117) hx hb dX7_comesOf_113 (by decide) ?_
                          exact hJ117 (1 : Int32) h _ _ _ hP hD hS (lv_sub hl [0, 1, 2, 3, 4, 5] rfl)
                      refine lv_icmp_ge (tgt := 94) hx hb dX7_comesOf_87 (by decide) (fun c87 => ?_) (fun c87 => ?_)
                      · replace h := h.1 c87
                        refine lv_iconst (v := (0 : Int32)) hx hb dX7_comesOf_94 (by decide +kernel) ?_
                        exact hJ95 (0 : Int32) h _ _ _ hP hD hS (lv_sub hl [1, 2, 3, 4, 6, 7] rfl)
                      · replace h := h.2 c87
                        refine lv_iconst (v := (1 : Int32)) hx hb dX7_comesOf_90 (by decide +kernel) ?_
                        refine lv_goto (tgt := 95) hx hb dX7_comesOf_91 (by decide) ?_
                        exact hJ95 (1 : Int32) h _ _ _ hP hD hS (lv_sub hl [1, 2, 3, 4, 6, 7] rfl)
                obtain ⟨J60, hR60, h⟩ := h
                have hJ60 : J60 → ∀ (H : Heap) (locs : List Loc) (ls : Array Slot), va_P (dC, dI) vwCl [(a_m, .inr (7, [.int mkd, .int mrt, .int mri, .int mca, .int mpr, .int men, .ref a_mp, .ref a_me, .int mth, .int mrq, .ref a_mq, .long mtr, .ref a_mr, .ref a_mo, .int mos, .ref a_ml, .ref a_mt, .ref a_mf])), (a_mo, .inl (kA, 96, .inl moF))] H → va_D A [(a_m, .inr (7, [.int mkd, .int mrt, .int mri, .int mca, .int mpr, .int men, .ref a_mp, .ref a_me, .int mth, .int mrq, .ref a_mq, .long mtr, .ref a_mr, .ref a_mo, .int mos, .ref a_ml, .ref a_mt, .ref a_mf])), (a_mo, .inl (kA, 96, .inl moF))] → va_S A s.heap H locs → lv_has ls 8 [(0, .ref a_m), (1, .int p1), (2, .int p2), (3, .int p3), (4, .int v4_37), (5, .int v5_25), (6, .int v6_37)] → W p l e (headSpec wsX7_comesOf rmX7_comesOf).room s m args below meth c H locs 0 0 Q (F0 m 60 ls []) := by
                  intro  h H locs ls hP hD hS hl
                  replace h := hR60  h
                  refine lv_iconst (v := (0 : Int32)) hx hb dX7_comesOf_60 (by decide +kernel) ?_
                  exact hJ61 (0 : Int32) h _ _ _ hP hD hS (lv_sub hl [0, 1, 2, 3, 4, 5, 6] rfl)
                refine lv_icmp_eq (tgt := 60) hx hb dX7_comesOf_47 (by decide) (fun c47 => ?_) (fun c47 => ?_)
                · replace h := h.1 c47
                  exact hJ60 h _ _ _ hP hD hS (lv_sub hl [0, 1, 2, 3, 4, 5, 6] rfl)
                · replace h := h.2 c47
                  refine lv_iload hx hb dX7_comesOf_50 (lv_at hl 6 rfl) ?_
                  refine lv_iload_n hx hb dX7_comesOf_52 rfl (lv_at hl 3 rfl) ?_
                  refine lv_icmp_eq (tgt := 60) hx hb dX7_comesOf_53 (by decide) (fun c53 => ?_) (fun c53 => ?_)
                  · replace h := h.1 c53
                    exact hJ60 h _ _ _ hP hD hS (lv_sub hl [0, 1, 2, 3, 4, 5, 6] rfl)
                  · replace h := h.2 c53
                    refine lv_iconst (v := (1 : Int32)) hx hb dX7_comesOf_56 (by decide +kernel) ?_
                    refine lv_goto (tgt := 61) hx hb dX7_comesOf_57 (by decide) ?_
                    exact hJ61 (1 : Int32) h _ _ _ hP hD hS (lv_sub hl [0, 1, 2, 3, 4, 5, 6] rfl)
          exact hL37 n37 v4_25 (0 : Int32) h _ _ _ hP hD hS (lv_sub hl [1, 2, 3, 4, 5, 6, 0] rfl)
    exact hL25 n25 t0_20 (0 : Int32) h _ _ _ hP hD hS (lv_sub hl [2, 3, 4, 5, 1, 0] rfl)
  refine lv_icmp_gt (tgt := 19) hx hb dX7_comesOf_12 (by decide) (fun c12 => ?_) (fun c12 => ?_)
  · replace h := h.1 c12
    refine lv_iconst (v := (0 : Int32)) hx hb dX7_comesOf_19 (by decide +kernel) ?_
    exact hJ20 (0 : Int32) h _ _ _ hP hD hS (lv_sub hl [0, 1, 2, 3] rfl)
  · replace h := h.2 c12
    refine lv_iconst (v := (1 : Int32)) hx hb dX7_comesOf_15 (by decide +kernel) ?_
    refine lv_goto (tgt := 20) hx hb dX7_comesOf_16 (by decide) ?_
    exact hJ20 (1 : Int32) h _ _ _ hP hD hS (lv_sub hl [0, 1, 2, 3] rfl)

/-- RentOrBuyModel.bestCost -/
def rmX7_bestCost : Room := { frames := 2, cells := 0, slots := 0, locals := 50 }
set_option maxHeartbeats 4000000 in
set_option maxRecDepth 100000 in
theorem c_X7_bestCost (l : Launch) (dC : Nat → ClassId) (dI : Nat → Nat → Nat) (kA : ClassId) (a_m a_mq a_mo a_ml a_mt a_mf a_mp a_me a_mr : Nat) (sz : Nat) (mkd : Int32) (mrt : Int32) (mri : Int32) (mca : Int32) (mpr : Int32) (men : Int32) (mth : Int32) (mrq : Int32) (mtr : Int64) (mos : Int32) (mqF : Nat → Int32) (moF : Nat → Int32) (mlF : Nat → Int32) (mtF : Nat → Int32) (mfF : Nat → Int32) (K : Int32 → (Nat → Int32) → (Nat → Int32) → (Nat → Int32) → Prop) (hg : g_X7_bestCost mkd mrt mri mca mpr men mth mrq mtr mos mqF moF mlF mtF mfF K) : Met l yX7_bestCost wsX7_bestCost rmX7_bestCost (va_Pc [.ref a_m] (prW (dC, dI) kA sz [(a_m, .inr (7, [.int mkd, .int mrt, .int mri, .int mca, .int mpr, .int men, .ref a_mp, .ref a_me, .int mth, .int mrq, .ref a_mq, .long mtr, .ref a_mr, .ref a_mo, .int mos, .ref a_ml, .ref a_mt, .ref a_mf])), (a_mq, .inl (kA, 16, .inl mqF)), (a_mo, .inl (kA, 96, .inl moF)), (a_ml, .inl (kA, 24, .inl mlF)), (a_mt, .inl (kA, 24, .inl mtF)), (a_mf, .inl (kA, 576, .inl mfF))])) (va_Qi (fun (r : Int32) (u : (Nat → Int32) × (Nat → Int32) × (Nat → Int32)) => K r u.1 u.2.1 u.2.2) (poW (dC, dI) (va_A [(a_m, .inr (7, [.int mkd, .int mrt, .int mri, .int mca, .int mpr, .int men, .ref a_mp, .ref a_me, .int mth, .int mrq, .ref a_mq, .long mtr, .ref a_mr, .ref a_mo, .int mos, .ref a_ml, .ref a_mt, .ref a_mf])), (a_mq, .inl (kA, 16, .inl mqF)), (a_mo, .inl (kA, 96, .inl moF)), (a_ml, .inl (kA, 24, .inl mlF)), (a_mt, .inl (kA, 24, .inl mtF)), (a_mf, .inl (kA, 576, .inl mfF))] sz) (fun (u : (Nat → Int32) × (Nat → Int32) × (Nat → Int32)) => [(a_m, .inr (7, [.int mkd, .int mrt, .int mri, .int mca, .int mpr, .int men, .ref a_mp, .ref a_me, .int mth, .int mrq, .ref a_mq, .long mtr, .ref a_mr, .ref a_mo, .int mos, .ref a_ml, .ref a_mt, .ref a_mf])), (a_mq, .inl (kA, 16, .inl mqF)), (a_mo, .inl (kA, 96, .inl moF)), (a_ml, .inl (kA, 24, .inl u.1)), (a_mt, .inl (kA, 24, .inl u.2.1)), (a_mf, .inl (kA, 576, .inl u.2.2))])) (va_A [(a_m, .inr (7, [.int mkd, .int mrt, .int mri, .int mca, .int mpr, .int men, .ref a_mp, .ref a_me, .int mth, .int mrq, .ref a_mq, .long mtr, .ref a_mr, .ref a_mo, .int mos, .ref a_ml, .ref a_mt, .ref a_mf])), (a_mq, .inl (kA, 16, .inl mqF)), (a_mo, .inl (kA, 96, .inl moF)), (a_ml, .inl (kA, 24, .inl mlF)), (a_mt, .inl (kA, 24, .inl mtF)), (a_mf, .inl (kA, 576, .inl mfF))] sz)) 0 0 (va_A [(a_m, .inr (7, [.int mkd, .int mrt, .int mri, .int mca, .int mpr, .int men, .ref a_mp, .ref a_me, .int mth, .int mrq, .ref a_mq, .long mtr, .ref a_mr, .ref a_mo, .int mos, .ref a_ml, .ref a_mt, .ref a_mf])), (a_mq, .inl (kA, 16, .inl mqF)), (a_mo, .inl (kA, 96, .inl moF)), (a_ml, .inl (kA, 24, .inl mlF)), (a_mt, .inl (kA, 24, .inl mtF)), (a_mf, .inl (kA, 576, .inl mfF))] sz) := by
  refine Met.ofW (cc := cX7_bestCost) (maxL := 5) (ret := (some .int)) (by decide) rfl ?_
  intro p e s m args below meth c s₁ B hml hv
  obtain ⟨hargs, hsz, hP, hK, hD0, hN⟩ := hv
  have hx := B.exec
  have hb := B.bytes
  have hr := B.returns
  have hts := atoms_spec (ws := wsX7_bestCost) B.pre
  have hown : s.vm.findClass RX7 = some m.cls := findClass_of_methodNamed B.named
  have hlocks := B.notSynchronized
  subst hsz
  have hD := hD0.self (sz := s.heap.size)
  generalize hAe : va_A [(a_m, .inr (7, [.int mkd, .int mrt, .int mri, .int mca, .int mpr, .int men, .ref a_mp, .ref a_me, .int mth, .int mrq, .ref a_mq, .long mtr, .ref a_mr, .ref a_mo, .int mos, .ref a_ml, .ref a_mt, .ref a_mf])), (a_mq, .inl (kA, 16, .inl mqF)), (a_mo, .inl (kA, 96, .inl moF)), (a_ml, .inl (kA, 24, .inl mlF)), (a_mt, .inl (kA, 24, .inl mtF)), (a_mf, .inl (kA, 576, .inl mfF))] s.heap.size = A at hD ⊢
  have hA : ∀ q : Nat, s.heap.size ≤ q → A q := fun q h => by rw [← hAe]; exact Or.inr h
  have hS : va_S A s.heap s.heap [] := va_S.rf
  obtain ⟨Q, hQ⟩ : ∃ Q : State → Prop, Q = MQ below (va_Qi (fun (r : Int32) (u : (Nat → Int32) × (Nat → Int32) × (Nat → Int32)) => K r u.1 u.2.1 u.2.2) (poW (dC, dI) A (fun (u : (Nat → Int32) × (Nat → Int32) × (Nat → Int32)) => [(a_m, .inr (7, [.int mkd, .int mrt, .int mri, .int mca, .int mpr, .int men, .ref a_mp, .ref a_me, .int mth, .int mrq, .ref a_mq, .long mtr, .ref a_mr, .ref a_mo, .int mos, .ref a_ml, .ref a_mt, .ref a_mf])), (a_mq, .inl (kA, 16, .inl mqF)), (a_mo, .inl (kA, 96, .inl moF)), (a_ml, .inl (kA, 24, .inl u.1)), (a_mt, .inl (kA, 24, .inl u.2.1)), (a_mf, .inl (kA, 576, .inl u.2.2))])) A) args s 0 0 A := ⟨_, rfl⟩
  rw [← hQ]
  have hP : va_P (dC, dI) vwCl [(a_m, .inr (7, [.int mkd, .int mrt, .int mri, .int mca, .int mpr, .int men, .ref a_mp, .ref a_me, .int mth, .int mrq, .ref a_mq, .long mtr, .ref a_mr, .ref a_mo, .int mos, .ref a_ml, .ref a_mt, .ref a_mf])), (a_mq, .inl (kA, 16, .inl mqF)), (a_mo, .inl (kA, 96, .inl moF)), (a_ml, .inl (kA, 24, .inl mlF)), (a_mt, .inl (kA, 24, .inl mtF)), (a_mf, .inl (kA, 576, .inl mfF))] s.heap := hP
  refine en_ok hargs (Nat.le_of_ble_eq_true rfl) (fun ls hl => ?_)
  have hl : lv_has ls 5 [(0, .ref a_m)] := hl
  have h := hg
  unfold g_X7_bestCost at h
  refine lv_iconst (v := (0 : Int32)) hx hb dX7_bestCost_0 (by decide +kernel) ?_
  refine lv_istore_n (lv' := [(1, .int (0 : Int32)), (0, .ref a_m)]) hx hb dX7_bestCost_1 rfl hl (by decide) rfl (fun ls hl => ?_)
  obtain ⟨J2, ⟨n2, h⟩, hz2, hs2⟩ := h
  have hL2 : ∀ (n2 : Nat) (v1_2 : Int32) (mlF_2 : Nat → Int32) (mfF_2 : Nat → Int32), J2 n2 v1_2 mlF_2 mfF_2 → ∀ (H : Heap) (locs : List Loc) (ls : Array Slot), va_P (dC, dI) vwCl [(a_m, .inr (7, [.int mkd, .int mrt, .int mri, .int mca, .int mpr, .int men, .ref a_mp, .ref a_me, .int mth, .int mrq, .ref a_mq, .long mtr, .ref a_mr, .ref a_mo, .int mos, .ref a_ml, .ref a_mt, .ref a_mf])), (a_mq, .inl (kA, 16, .inl mqF)), (a_mo, .inl (kA, 96, .inl moF)), (a_ml, .inl (kA, 24, .inl mlF_2)), (a_mt, .inl (kA, 24, .inl mtF)), (a_mf, .inl (kA, 576, .inl mfF_2))] H → va_D A [(a_m, .inr (7, [.int mkd, .int mrt, .int mri, .int mca, .int mpr, .int men, .ref a_mp, .ref a_me, .int mth, .int mrq, .ref a_mq, .long mtr, .ref a_mr, .ref a_mo, .int mos, .ref a_ml, .ref a_mt, .ref a_mf])), (a_mq, .inl (kA, 16, .inl mqF)), (a_mo, .inl (kA, 96, .inl moF)), (a_ml, .inl (kA, 24, .inl mlF_2)), (a_mt, .inl (kA, 24, .inl mtF)), (a_mf, .inl (kA, 576, .inl mfF_2))] → va_S A s.heap H locs → lv_has ls 5 [(0, .ref a_m), (1, .int v1_2)] → W p l e (headSpec wsX7_bestCost rmX7_bestCost).room s m args below meth c H locs 0 0 Q (F0 m 2 ls []) := by
    intro n2
    induction n2 with
    | zero => intro v1_2 mlF_2 mfF_2 h; exact absurd h (hz2 v1_2 mlF_2 mfF_2)
    | succ n2 ih2 =>
      intro v1_2 mlF_2 mfF_2 h H locs ls hP hD hS hl
      replace h := hs2 n2 v1_2 mlF_2 mfF_2 h
      refine lv_iload_n hx hb dX7_bestCost_2 rfl (lv_at hl 1 rfl) ?_
      refine lv_aload_n hx hb dX7_bestCost_3 rfl (lv_at hl 0 rfl) ?_
      refine va_get (D := (dC, dI)) (ci := 7) (v := .int mos) (C := RX7) (T := TX7) (N := 18) hx hb hts (fun _ h => List.mem_cons_of_mem _ (List.mem_append_right _ h)) hown hK hP 0 rfl rfl 14 (by decide) (hts (.fieldLink RX7 135 "RentOrBuyModel" "orders" "I") (List.mem_cons_of_mem _ (List.mem_append_left _ (List.mem_of_getElem? (i := 0) rfl)))) (fun _ h9 => h9) rfl dX7_bestCost_4 ?_
      refine lv_icmp_ge (tgt := 107) hx hb dX7_bestCost_7 (by decide) (fun c7 => ?_) (fun c7 => ?_)
      · replace h := h.1 c7
        refine lv_iconst (v := (0 : Int32)) hx hb dX7_bestCost_107 (by decide +kernel) ?_
        refine lv_istore_n (lv' := [(1, .int (0 : Int32)), (0, .ref a_m)]) hx hb dX7_bestCost_108 rfl hl (by decide) rfl (fun ls hl => ?_)
        obtain ⟨J109, ⟨n109, h⟩, hz109, hs109⟩ := h
        have hL109 : ∀ (n109 : Nat) (v1_109 : Int32) (mlF_109 : Nat → Int32) (mtF_109 : Nat → Int32), J109 n109 v1_109 mlF_109 mtF_109 → ∀ (H : Heap) (locs : List Loc) (ls : Array Slot), va_P (dC, dI) vwCl [(a_m, .inr (7, [.int mkd, .int mrt, .int mri, .int mca, .int mpr, .int men, .ref a_mp, .ref a_me, .int mth, .int mrq, .ref a_mq, .long mtr, .ref a_mr, .ref a_mo, .int mos, .ref a_ml, .ref a_mt, .ref a_mf])), (a_mq, .inl (kA, 16, .inl mqF)), (a_mo, .inl (kA, 96, .inl moF)), (a_ml, .inl (kA, 24, .inl mlF_109)), (a_mt, .inl (kA, 24, .inl mtF_109)), (a_mf, .inl (kA, 576, .inl mfF_2))] H → va_D A [(a_m, .inr (7, [.int mkd, .int mrt, .int mri, .int mca, .int mpr, .int men, .ref a_mp, .ref a_me, .int mth, .int mrq, .ref a_mq, .long mtr, .ref a_mr, .ref a_mo, .int mos, .ref a_ml, .ref a_mt, .ref a_mf])), (a_mq, .inl (kA, 16, .inl mqF)), (a_mo, .inl (kA, 96, .inl moF)), (a_ml, .inl (kA, 24, .inl mlF_109)), (a_mt, .inl (kA, 24, .inl mtF_109)), (a_mf, .inl (kA, 576, .inl mfF_2))] → va_S A s.heap H locs → lv_has ls 5 [(0, .ref a_m), (1, .int v1_109)] → W p l e (headSpec wsX7_bestCost rmX7_bestCost).room s m args below meth c H locs 0 0 Q (F0 m 109 ls []) := by
          intro n109
          induction n109 with
          | zero => intro v1_109 mlF_109 mtF_109 h; exact absurd h (hz109 v1_109 mlF_109 mtF_109)
          | succ n109 ih109 =>
            intro v1_109 mlF_109 mtF_109 h H locs ls hP hD hS hl
            replace h := hs109 n109 v1_109 mlF_109 mtF_109 h
            refine lv_iload_n hx hb dX7_bestCost_109 rfl (lv_at hl 1 rfl) ?_
            refine lv_aload_n hx hb dX7_bestCost_110 rfl (lv_at hl 0 rfl) ?_
            refine va_get (D := (dC, dI)) (ci := 7) (v := .int mrq) (C := RX7) (T := TX7) (N := 18) hx hb hts (fun _ h => List.mem_cons_of_mem _ (List.mem_append_right _ h)) hown hK hP 0 rfl rfl 9 (by decide) (hts (.fieldLink RX7 50 "RentOrBuyModel" "requests" "I") (List.mem_cons_of_mem _ (List.mem_append_left _ (List.mem_of_getElem? (i := 6) rfl)))) (fun _ h9 => h9) rfl dX7_bestCost_111 ?_
            refine lv_icmp_ge (tgt := 324) hx hb dX7_bestCost_114 (by decide) (fun c114 => ?_) (fun c114 => ?_)
            · replace h := h.1 c114
              refine lv_aload_n hx hb dX7_bestCost_324 rfl (lv_at hl 0 rfl) ?_
              refine va_get (D := (dC, dI)) (ci := 7) (v := .ref a_ml) (C := RX7) (T := TX7) (N := 18) hx hb hts (fun _ h => List.mem_cons_of_mem _ (List.mem_append_right _ h)) hown hK hP 0 rfl rfl 15 (by decide) (hts (.fieldLink RX7 41 "RentOrBuyModel" "least" "[I") (List.mem_cons_of_mem _ (List.mem_append_left _ (List.mem_of_getElem? (i := 3) rfl)))) (fun _ h9 => h9) rfl dX7_bestCost_325 ?_
              refine lv_iconst (v := (0 : Int32)) hx hb dX7_bestCost_328 (by decide +kernel) ?_
              obtain ⟨hi329, h⟩ := h
              refine va_iald hx hb hK hP 3 0 rfl rfl hi329 dX7_bestCost_329 ?_
              refine lv_istore_n (lv' := [(1, .int (mlF_109 (0 : Int32).toNatClampNeg)), (0, .ref a_m)]) hx hb dX7_bestCost_330 rfl hl (by decide) rfl (fun ls hl => ?_)
              refine lv_iconst (v := (1 : Int32)) hx hb dX7_bestCost_331 (by decide +kernel) ?_
              refine lv_istore_n (lv' := [(2, .int (1 : Int32)), (1, .int (mlF_109 (0 : Int32).toNatClampNeg)), (0, .ref a_m)]) hx hb dX7_bestCost_332 rfl hl (by decide) rfl (fun ls hl => ?_)
              obtain ⟨J333, ⟨n333, h⟩, hz333, hs333⟩ := h
              have hL333 : ∀ (n333 : Nat) (v1_333 : Int32) (v2_333 : Int32), J333 n333 v1_333 v2_333 → ∀ (H : Heap) (locs : List Loc) (ls : Array Slot), va_P (dC, dI) vwCl [(a_m, .inr (7, [.int mkd, .int mrt, .int mri, .int mca, .int mpr, .int men, .ref a_mp, .ref a_me, .int mth, .int mrq, .ref a_mq, .long mtr, .ref a_mr, .ref a_mo, .int mos, .ref a_ml, .ref a_mt, .ref a_mf])), (a_mq, .inl (kA, 16, .inl mqF)), (a_mo, .inl (kA, 96, .inl moF)), (a_ml, .inl (kA, 24, .inl mlF_109)), (a_mt, .inl (kA, 24, .inl mtF_109)), (a_mf, .inl (kA, 576, .inl mfF_2))] H → va_D A [(a_m, .inr (7, [.int mkd, .int mrt, .int mri, .int mca, .int mpr, .int men, .ref a_mp, .ref a_me, .int mth, .int mrq, .ref a_mq, .long mtr, .ref a_mr, .ref a_mo, .int mos, .ref a_ml, .ref a_mt, .ref a_mf])), (a_mq, .inl (kA, 16, .inl mqF)), (a_mo, .inl (kA, 96, .inl moF)), (a_ml, .inl (kA, 24, .inl mlF_109)), (a_mt, .inl (kA, 24, .inl mtF_109)), (a_mf, .inl (kA, 576, .inl mfF_2))] → va_S A s.heap H locs → lv_has ls 5 [(0, .ref a_m), (1, .int v1_333), (2, .int v2_333)] → W p l e (headSpec wsX7_bestCost rmX7_bestCost).room s m args below meth c H locs 0 0 Q (F0 m 333 ls []) := by
                intro n333
                induction n333 with
                | zero => intro v1_333 v2_333 h; exact absurd h (hz333 v1_333 v2_333)
                | succ n333 ih333 =>
                  intro v1_333 v2_333 h H locs ls hP hD hS hl
                  replace h := hs333 n333 v1_333 v2_333 h
                  refine lv_iload_n hx hb dX7_bestCost_333 rfl (lv_at hl 2 rfl) ?_
                  refine lv_aload_n hx hb dX7_bestCost_334 rfl (lv_at hl 0 rfl) ?_
                  refine va_get (D := (dC, dI)) (ci := 7) (v := .int mos) (C := RX7) (T := TX7) (N := 18) hx hb hts (fun _ h => List.mem_cons_of_mem _ (List.mem_append_right _ h)) hown hK hP 0 rfl rfl 14 (by decide) (hts (.fieldLink RX7 135 "RentOrBuyModel" "orders" "I") (List.mem_cons_of_mem _ (List.mem_append_left _ (List.mem_of_getElem? (i := 0) rfl)))) (fun _ h9 => h9) rfl dX7_bestCost_335 ?_
                  refine lv_icmp_ge (tgt := 368) hx hb dX7_bestCost_338 (by decide) (fun c338 => ?_) (fun c338 => ?_)
                  · replace h := h.1 c338
                    refine lv_iload_n hx hb dX7_bestCost_368 rfl (lv_at hl 1 rfl) ?_
                    rw [hQ]
                    exact rt_i (mlF_109, mtF_109, mfF_2) hx hb hr hlocks h hP hD hS dX7_bestCost_369
                  · replace h := h.2 c338
                    refine lv_aload_n hx hb dX7_bestCost_341 rfl (lv_at hl 0 rfl) ?_
                    refine va_get (D := (dC, dI)) (ci := 7) (v := .ref a_ml) (C := RX7) (T := TX7) (N := 18) hx hb hts (fun _ h => List.mem_cons_of_mem _ (List.mem_append_right _ h)) hown hK hP 0 rfl rfl 15 (by decide) (hts (.fieldLink RX7 41 "RentOrBuyModel" "least" "[I") (List.mem_cons_of_mem _ (List.mem_append_left _ (List.mem_of_getElem? (i := 3) rfl)))) (fun _ h9 => h9) rfl dX7_bestCost_342 ?_
                    refine lv_iload_n hx hb dX7_bestCost_345 rfl (lv_at hl 2 rfl) ?_
                    obtain ⟨hi346, h⟩ := h
                    refine va_iald hx hb hK hP 3 0 rfl rfl hi346 dX7_bestCost_346 ?_
                    refine lv_iload_n hx hb dX7_bestCost_347 rfl (lv_at hl 1 rfl) ?_
                    obtain ⟨J361, hR361, h⟩ := h
                    have hJ361 : ∀ (t0_361 : Int32), J361 t0_361 → ∀ (H : Heap) (locs : List Loc) (ls : Array Slot), va_P (dC, dI) vwCl [(a_m, .inr (7, [.int mkd, .int mrt, .int mri, .int mca, .int mpr, .int men, .ref a_mp, .ref a_me, .int mth, .int mrq, .ref a_mq, .long mtr, .ref a_mr, .ref a_mo, .int mos, .ref a_ml, .ref a_mt, .ref a_mf])), (a_mq, .inl (kA, 16, .inl mqF)), (a_mo, .inl (kA, 96, .inl moF)), (a_ml, .inl (kA, 24, .inl mlF_109)), (a_mt, .inl (kA, 24, .inl mtF_109)), (a_mf, .inl (kA, 576, .inl mfF_2))] H → va_D A [(a_m, .inr (7, [.int mkd, .int mrt, .int mri, .int mca, .int mpr, .int men, .ref a_mp, .ref a_me, .int mth, .int mrq, .ref a_mq, .long mtr, .ref a_mr, .ref a_mo, .int mos, .ref a_ml, .ref a_mt, .ref a_mf])), (a_mq, .inl (kA, 16, .inl mqF)), (a_mo, .inl (kA, 96, .inl moF)), (a_ml, .inl (kA, 24, .inl mlF_109)), (a_mt, .inl (kA, 24, .inl mtF_109)), (a_mf, .inl (kA, 576, .inl mfF_2))] → va_S A s.heap H locs → lv_has ls 5 [(0, .ref a_m), (2, .int v2_333)] → W p l e (headSpec wsX7_bestCost rmX7_bestCost).room s m args below meth c H locs 0 0 Q (F0 m 361 ls [.int t0_361]) := by
                      intro t0_361 h H locs ls hP hD hS hl
                      replace h := hR361 t0_361 h
                      refine lv_istore_n (lv' := [(1, .int t0_361), (0, .ref a_m), (2, .int v2_333)]) hx hb dX7_bestCost_361 rfl hl (by decide) rfl (fun ls hl => ?_)
                      refine lv_iinc (v := (v2_333 + (1 : Int32))) (lv' := [(2, .int (v2_333 + (1 : Int32))), (1, .int t0_361), (0, .ref a_m)]) hx hb dX7_bestCost_362 hl (k := 2) rfl (by rfl) (by decide) rfl (fun ls hl => ?_)
                      refine lv_goto (tgt := 333) hx hb dX7_bestCost_365 (by decide) ?_
                      exact ih333 t0_361 (v2_333 + (1 : Int32)) h _ _ _ hP hD hS (lv_sub hl [2, 1, 0] rfl)
                    refine lv_icmp_ge (tgt := 360) hx hb dX7_bestCost_348 (by decide) (fun c348 => ?_) (fun c348 => ?_)
                    · replace h := h.1 c348
                      refine lv_iload_n hx hb dX7_bestCost_360 rfl (lv_at hl 1 rfl) ?_
                      exact hJ361 v1_333 h _ _ _ hP hD hS (lv_sub hl [0, 2] rfl)
                    · replace h := h.2 c348
                      refine lv_aload_n hx hb dX7_bestCost_351 rfl (lv_at hl 0 rfl) ?_
                      refine va_get (D := (dC, dI)) (ci := 7) (v := .ref a_ml) (C := RX7) (T := TX7) (N := 18) hx hb hts (fun _ h => List.mem_cons_of_mem _ (List.mem_append_right _ h)) hown hK hP 0 rfl rfl 15 (by decide) (hts (.fieldLink RX7 41 "RentOrBuyModel" "least" "[I") (List.mem_cons_of_mem _ (List.mem_append_left _ (List.mem_of_getElem? (i := 3) rfl)))) (fun _ h9 => h9) rfl dX7_bestCost_352 ?_
                      refine lv_iload_n hx hb dX7_bestCost_355 rfl (lv_at hl 2 rfl) ?_
                      obtain ⟨hi356, h⟩ := h
                      refine va_iald hx hb hK hP 3 0 rfl rfl hi356 dX7_bestCost_356 ?_
                      refine lv_goto (tgt := 361) hx hb dX7_bestCost_357 (by decide) ?_
                      exact hJ361 (mlF_109 v2_333.toNatClampNeg) h _ _ _ hP hD hS (lv_sub hl [0, 2] rfl)
              exact hL333 n333 (mlF_109 (0 : Int32).toNatClampNeg) (1 : Int32) h _ _ _ hP hD hS (lv_sub hl [2, 1, 0] rfl)
            · replace h := h.2 c114
              refine lv_iconst (v := (0 : Int32)) hx hb dX7_bestCost_117 (by decide +kernel) ?_
              refine lv_istore_n (lv' := [(2, .int (0 : Int32)), (0, .ref a_m), (1, .int v1_109)]) hx hb dX7_bestCost_118 rfl hl (by decide) rfl (fun ls hl => ?_)
              obtain ⟨J119, ⟨n119, h⟩, hz119, hs119⟩ := h
              have hL119 : ∀ (n119 : Nat) (v2_119 : Int32) (mtF_119 : Nat → Int32), J119 n119 v2_119 mtF_119 → ∀ (H : Heap) (locs : List Loc) (ls : Array Slot), va_P (dC, dI) vwCl [(a_m, .inr (7, [.int mkd, .int mrt, .int mri, .int mca, .int mpr, .int men, .ref a_mp, .ref a_me, .int mth, .int mrq, .ref a_mq, .long mtr, .ref a_mr, .ref a_mo, .int mos, .ref a_ml, .ref a_mt, .ref a_mf])), (a_mq, .inl (kA, 16, .inl mqF)), (a_mo, .inl (kA, 96, .inl moF)), (a_ml, .inl (kA, 24, .inl mlF_109)), (a_mt, .inl (kA, 24, .inl mtF_119)), (a_mf, .inl (kA, 576, .inl mfF_2))] H → va_D A [(a_m, .inr (7, [.int mkd, .int mrt, .int mri, .int mca, .int mpr, .int men, .ref a_mp, .ref a_me, .int mth, .int mrq, .ref a_mq, .long mtr, .ref a_mr, .ref a_mo, .int mos, .ref a_ml, .ref a_mt, .ref a_mf])), (a_mq, .inl (kA, 16, .inl mqF)), (a_mo, .inl (kA, 96, .inl moF)), (a_ml, .inl (kA, 24, .inl mlF_109)), (a_mt, .inl (kA, 24, .inl mtF_119)), (a_mf, .inl (kA, 576, .inl mfF_2))] → va_S A s.heap H locs → lv_has ls 5 [(0, .ref a_m), (1, .int v1_109), (2, .int v2_119)] → W p l e (headSpec wsX7_bestCost rmX7_bestCost).room s m args below meth c H locs 0 0 Q (F0 m 119 ls []) := by
                intro n119
                induction n119 with
                | zero => intro v2_119 mtF_119 h; exact absurd h (hz119 v2_119 mtF_119)
                | succ n119 ih119 =>
                  intro v2_119 mtF_119 h H locs ls hP hD hS hl
                  replace h := hs119 n119 v2_119 mtF_119 h
                  refine lv_iload_n hx hb dX7_bestCost_119 rfl (lv_at hl 2 rfl) ?_
                  refine lv_aload_n hx hb dX7_bestCost_120 rfl (lv_at hl 0 rfl) ?_
                  refine va_get (D := (dC, dI)) (ci := 7) (v := .int mos) (C := RX7) (T := TX7) (N := 18) hx hb hts (fun _ h => List.mem_cons_of_mem _ (List.mem_append_right _ h)) hown hK hP 0 rfl rfl 14 (by decide) (hts (.fieldLink RX7 135 "RentOrBuyModel" "orders" "I") (List.mem_cons_of_mem _ (List.mem_append_left _ (List.mem_of_getElem? (i := 0) rfl)))) (fun _ h9 => h9) rfl dX7_bestCost_121 ?_
                  refine lv_icmp_ge (tgt := 227) hx hb dX7_bestCost_124 (by decide) (fun c124 => ?_) (fun c124 => ?_)
                  · replace h := h.1 c124
                    refine lv_iconst (v := (0 : Int32)) hx hb dX7_bestCost_227 (by decide +kernel) ?_
                    refine lv_istore_n (lv' := [(2, .int (0 : Int32)), (0, .ref a_m), (1, .int v1_109)]) hx hb dX7_bestCost_228 rfl hl (by decide) rfl (fun ls hl => ?_)
                    obtain ⟨J229, ⟨n229, h⟩, hz229, hs229⟩ := h
                    have hL229 : ∀ (n229 : Nat) (v2_229 : Int32) (mlF_229 : Nat → Int32), J229 n229 v2_229 mlF_229 → ∀ (H : Heap) (locs : List Loc) (ls : Array Slot), va_P (dC, dI) vwCl [(a_m, .inr (7, [.int mkd, .int mrt, .int mri, .int mca, .int mpr, .int men, .ref a_mp, .ref a_me, .int mth, .int mrq, .ref a_mq, .long mtr, .ref a_mr, .ref a_mo, .int mos, .ref a_ml, .ref a_mt, .ref a_mf])), (a_mq, .inl (kA, 16, .inl mqF)), (a_mo, .inl (kA, 96, .inl moF)), (a_ml, .inl (kA, 24, .inl mlF_229)), (a_mt, .inl (kA, 24, .inl mtF_119)), (a_mf, .inl (kA, 576, .inl mfF_2))] H → va_D A [(a_m, .inr (7, [.int mkd, .int mrt, .int mri, .int mca, .int mpr, .int men, .ref a_mp, .ref a_me, .int mth, .int mrq, .ref a_mq, .long mtr, .ref a_mr, .ref a_mo, .int mos, .ref a_ml, .ref a_mt, .ref a_mf])), (a_mq, .inl (kA, 16, .inl mqF)), (a_mo, .inl (kA, 96, .inl moF)), (a_ml, .inl (kA, 24, .inl mlF_229)), (a_mt, .inl (kA, 24, .inl mtF_119)), (a_mf, .inl (kA, 576, .inl mfF_2))] → va_S A s.heap H locs → lv_has ls 5 [(0, .ref a_m), (1, .int v1_109), (2, .int v2_229)] → W p l e (headSpec wsX7_bestCost rmX7_bestCost).room s m args below meth c H locs 0 0 Q (F0 m 229 ls []) := by
                      intro n229
                      induction n229 with
                      | zero => intro v2_229 mlF_229 h; exact absurd h (hz229 v2_229 mlF_229)
                      | succ n229 ih229 =>
                        intro v2_229 mlF_229 h H locs ls hP hD hS hl
                        replace h := hs229 n229 v2_229 mlF_229 h
                        refine lv_iload_n hx hb dX7_bestCost_229 rfl (lv_at hl 2 rfl) ?_
                        refine lv_aload_n hx hb dX7_bestCost_230 rfl (lv_at hl 0 rfl) ?_
                        refine va_get (D := (dC, dI)) (ci := 7) (v := .int mos) (C := RX7) (T := TX7) (N := 18) hx hb hts (fun _ h => List.mem_cons_of_mem _ (List.mem_append_right _ h)) hown hK hP 0 rfl rfl 14 (by decide) (hts (.fieldLink RX7 135 "RentOrBuyModel" "orders" "I") (List.mem_cons_of_mem _ (List.mem_append_left _ (List.mem_of_getElem? (i := 0) rfl)))) (fun _ h9 => h9) rfl dX7_bestCost_231 ?_
                        refine lv_icmp_ge (tgt := 318) hx hb dX7_bestCost_234 (by decide) (fun c234 => ?_) (fun c234 => ?_)
                        · replace h := h.1 c234
                          refine lv_iinc (v := (v1_109 + (1 : Int32))) (lv' := [(1, .int (v1_109 + (1 : Int32))), (0, .ref a_m), (2, .int v2_229)]) hx hb dX7_bestCost_318 hl (k := 1) rfl (by rfl) (by decide) rfl (fun ls hl => ?_)
                          refine lv_goto (tgt := 109) hx hb dX7_bestCost_321 (by decide) ?_
                          exact ih109 (v1_109 + (1 : Int32)) mlF_229 mtF_119 h _ _ _ hP hD hS (lv_sub hl [1, 0] rfl)
                        · replace h := h.2 c234
                          refine lv_aload_n hx hb dX7_bestCost_237 rfl (lv_at hl 0 rfl) ?_
                          refine va_get (D := (dC, dI)) (ci := 7) (v := .ref a_ml) (C := RX7) (T := TX7) (N := 18) hx hb hts (fun _ h => List.mem_cons_of_mem _ (List.mem_append_right _ h)) hown hK hP 0 rfl rfl 15 (by decide) (hts (.fieldLink RX7 41 "RentOrBuyModel" "least" "[I") (List.mem_cons_of_mem _ (List.mem_append_left _ (List.mem_of_getElem? (i := 3) rfl)))) (fun _ h9 => h9) rfl dX7_bestCost_238 ?_
                          refine lv_iload_n hx hb dX7_bestCost_241 rfl (lv_at hl 2 rfl) ?_
                          refine lv_ldc (v := (1000000 : Int32)) hx hb hown (hts (.constant RX7 141 (1000000)) (List.mem_cons_of_mem _ (List.mem_append_left _ (List.mem_of_getElem? (i := 4) rfl)))) dX7_bestCost_242 ?_
                          obtain ⟨hi244, h⟩ := h
                          refine va_iast hx hb hK hP hD hS 3 0 rfl rfl hi244 dX7_bestCost_244 (fun H locs hP hD hS => ?_)
                          have hP : va_P (dC, dI) vwCl [(a_m, .inr (7, [.int mkd, .int mrt, .int mri, .int mca, .int mpr, .int men, .ref a_mp, .ref a_me, .int mth, .int mrq, .ref a_mq, .long mtr, .ref a_mr, .ref a_mo, .int mos, .ref a_ml, .ref a_mt, .ref a_mf])), (a_mq, .inl (kA, 16, .inl mqF)), (a_mo, .inl (kA, 96, .inl moF)), (a_ml, .inl (kA, 24, .inl (upd mlF_229 v2_229.toNatClampNeg (1000000 : Int32)))), (a_mt, .inl (kA, 24, .inl mtF_119)), (a_mf, .inl (kA, 576, .inl mfF_2))] H := hP
                          have hD : va_D A [(a_m, .inr (7, [.int mkd, .int mrt, .int mri, .int mca, .int mpr, .int men, .ref a_mp, .ref a_me, .int mth, .int mrq, .ref a_mq, .long mtr, .ref a_mr, .ref a_mo, .int mos, .ref a_ml, .ref a_mt, .ref a_mf])), (a_mq, .inl (kA, 16, .inl mqF)), (a_mo, .inl (kA, 96, .inl moF)), (a_ml, .inl (kA, 24, .inl (upd mlF_229 v2_229.toNatClampNeg (1000000 : Int32)))), (a_mt, .inl (kA, 24, .inl mtF_119)), (a_mf, .inl (kA, 576, .inl mfF_2))] := hD
                          refine lv_iconst (v := (0 : Int32)) hx hb dX7_bestCost_245 (by decide +kernel) ?_
                          refine lv_istore_n (lv' := [(3, .int (0 : Int32)), (0, .ref a_m), (1, .int v1_109), (2, .int v2_229)]) hx hb dX7_bestCost_246 rfl hl (by decide) rfl (fun ls hl => ?_)
                          obtain ⟨J247, ⟨n247, h⟩, hz247, hs247⟩ := h
                          have hL247 : ∀ (n247 : Nat) (v3_247 : Int32) (mlF_247 : Nat → Int32), J247 n247 v3_247 mlF_247 → ∀ (H : Heap) (locs : List Loc) (ls : Array Slot), va_P (dC, dI) vwCl [(a_m, .inr (7, [.int mkd, .int mrt, .int mri, .int mca, .int mpr, .int men, .ref a_mp, .ref a_me, .int mth, .int mrq, .ref a_mq, .long mtr, .ref a_mr, .ref a_mo, .int mos, .ref a_ml, .ref a_mt, .ref a_mf])), (a_mq, .inl (kA, 16, .inl mqF)), (a_mo, .inl (kA, 96, .inl moF)), (a_ml, .inl (kA, 24, .inl mlF_247)), (a_mt, .inl (kA, 24, .inl mtF_119)), (a_mf, .inl (kA, 576, .inl mfF_2))] H → va_D A [(a_m, .inr (7, [.int mkd, .int mrt, .int mri, .int mca, .int mpr, .int men, .ref a_mp, .ref a_me, .int mth, .int mrq, .ref a_mq, .long mtr, .ref a_mr, .ref a_mo, .int mos, .ref a_ml, .ref a_mt, .ref a_mf])), (a_mq, .inl (kA, 16, .inl mqF)), (a_mo, .inl (kA, 96, .inl moF)), (a_ml, .inl (kA, 24, .inl mlF_247)), (a_mt, .inl (kA, 24, .inl mtF_119)), (a_mf, .inl (kA, 576, .inl mfF_2))] → va_S A s.heap H locs → lv_has ls 5 [(0, .ref a_m), (1, .int v1_109), (2, .int v2_229), (3, .int v3_247)] → W p l e (headSpec wsX7_bestCost rmX7_bestCost).room s m args below meth c H locs 0 0 Q (F0 m 247 ls []) := by
                            intro n247
                            induction n247 with
                            | zero => intro v3_247 mlF_247 h; exact absurd h (hz247 v3_247 mlF_247)
                            | succ n247 ih247 =>
                              intro v3_247 mlF_247 h H locs ls hP hD hS hl
                              replace h := hs247 n247 v3_247 mlF_247 h
                              refine lv_iload_n hx hb dX7_bestCost_247 rfl (lv_at hl 3 rfl) ?_
                              refine lv_aload_n hx hb dX7_bestCost_248 rfl (lv_at hl 0 rfl) ?_
                              refine va_get (D := (dC, dI)) (ci := 7) (v := .int mos) (C := RX7) (T := TX7) (N := 18) hx hb hts (fun _ h => List.mem_cons_of_mem _ (List.mem_append_right _ h)) hown hK hP 0 rfl rfl 14 (by decide) (hts (.fieldLink RX7 135 "RentOrBuyModel" "orders" "I") (List.mem_cons_of_mem _ (List.mem_append_left _ (List.mem_of_getElem? (i := 0) rfl)))) (fun _ h9 => h9) rfl dX7_bestCost_249 ?_
                              refine lv_icmp_ge (tgt := 312) hx hb dX7_bestCost_252 (by decide) (fun c252 => ?_) (fun c252 => ?_)
                              · replace h := h.1 c252
                                refine lv_iinc (v := (v2_229 + (1 : Int32))) (lv' := [(2, .int (v2_229 + (1 : Int32))), (0, .ref a_m), (1, .int v1_109), (3, .int v3_247)]) hx hb dX7_bestCost_312 hl (k := 2) rfl (by rfl) (by decide) rfl (fun ls hl => ?_)
                                refine lv_goto (tgt := 229) hx hb dX7_bestCost_315 (by decide) ?_
                                exact ih229 (v2_229 + (1 : Int32)) mlF_247 h _ _ _ hP hD hS (lv_sub hl [1, 2, 0] rfl)
                              · replace h := h.2 c252
                                refine lv_aload_n hx hb dX7_bestCost_255 rfl (lv_at hl 0 rfl) ?_
                                refine va_get (D := (dC, dI)) (ci := 7) (v := .ref a_ml) (C := RX7) (T := TX7) (N := 18) hx hb hts (fun _ h => List.mem_cons_of_mem _ (List.mem_append_right _ h)) hown hK hP 0 rfl rfl 15 (by decide) (hts (.fieldLink RX7 41 "RentOrBuyModel" "least" "[I") (List.mem_cons_of_mem _ (List.mem_append_left _ (List.mem_of_getElem? (i := 3) rfl)))) (fun _ h9 => h9) rfl dX7_bestCost_256 ?_
                                refine lv_iload_n hx hb dX7_bestCost_259 rfl (lv_at hl 2 rfl) ?_
                                refine lv_aload_n hx hb dX7_bestCost_260 rfl (lv_at hl 0 rfl) ?_
                                refine va_get (D := (dC, dI)) (ci := 7) (v := .ref a_mt) (C := RX7) (T := TX7) (N := 18) hx hb hts (fun _ h => List.mem_cons_of_mem _ (List.mem_append_right _ h)) hown hK hP 0 rfl rfl 16 (by decide) (hts (.fieldLink RX7 44 "RentOrBuyModel" "then" "[I") (List.mem_cons_of_mem _ (List.mem_append_left _ (List.mem_of_getElem? (i := 7) rfl)))) (fun _ h9 => h9) rfl dX7_bestCost_261 ?_
                                refine lv_iload_n hx hb dX7_bestCost_264 rfl (lv_at hl 3 rfl) ?_
                                obtain ⟨hi265, h⟩ := h
                                refine va_iald hx hb hK hP 4 0 rfl rfl hi265 dX7_bestCost_265 ?_
                                refine lv_aload_n hx hb dX7_bestCost_266 rfl (lv_at hl 0 rfl) ?_
                                refine va_get (D := (dC, dI)) (ci := 7) (v := .ref a_ml) (C := RX7) (T := TX7) (N := 18) hx hb hts (fun _ h => List.mem_cons_of_mem _ (List.mem_append_right _ h)) hown hK hP 0 rfl rfl 15 (by decide) (hts (.fieldLink RX7 41 "RentOrBuyModel" "least" "[I") (List.mem_cons_of_mem _ (List.mem_append_left _ (List.mem_of_getElem? (i := 3) rfl)))) (fun _ h9 => h9) rfl dX7_bestCost_267 ?_
                                refine lv_iload_n hx hb dX7_bestCost_270 rfl (lv_at hl 2 rfl) ?_
                                obtain ⟨hi271, h⟩ := h
                                refine va_iald hx hb hK hP 3 0 rfl rfl hi271 dX7_bestCost_271 ?_
                                obtain ⟨J305, hR305, h⟩ := h
                                have hJ305 : ∀ (t0_305 : Int32), J305 t0_305 → ∀ (H : Heap) (locs : List Loc) (ls : Array Slot), va_P (dC, dI) vwCl [(a_m, .inr (7, [.int mkd, .int mrt, .int mri, .int mca, .int mpr, .int men, .ref a_mp, .ref a_me, .int mth, .int mrq, .ref a_mq, .long mtr, .ref a_mr, .ref a_mo, .int mos, .ref a_ml, .ref a_mt, .ref a_mf])), (a_mq, .inl (kA, 16, .inl mqF)), (a_mo, .inl (kA, 96, .inl moF)), (a_ml, .inl (kA, 24, .inl mlF_247)), (a_mt, .inl (kA, 24, .inl mtF_119)), (a_mf, .inl (kA, 576, .inl mfF_2))] H → va_D A [(a_m, .inr (7, [.int mkd, .int mrt, .int mri, .int mca, .int mpr, .int men, .ref a_mp, .ref a_me, .int mth, .int mrq, .ref a_mq, .long mtr, .ref a_mr, .ref a_mo, .int mos, .ref a_ml, .ref a_mt, .ref a_mf])), (a_mq, .inl (kA, 16, .inl mqF)), (a_mo, .inl (kA, 96, .inl moF)), (a_ml, .inl (kA, 24, .inl mlF_247)), (a_mt, .inl (kA, 24, .inl mtF_119)), (a_mf, .inl (kA, 576, .inl mfF_2))] → va_S A s.heap H locs → lv_has ls 5 [(0, .ref a_m), (1, .int v1_109), (2, .int v2_229), (3, .int v3_247)] → W p l e (headSpec wsX7_bestCost rmX7_bestCost).room s m args below meth c H locs 0 0 Q (F0 m 305 ls [.int t0_305, .int v2_229, .ref a_ml]) := by
                                  intro t0_305 h H locs ls hP hD hS hl
                                  replace h := hR305 t0_305 h
                                  obtain ⟨hi305, h⟩ := h
                                  refine va_iast hx hb hK hP hD hS 3 0 rfl rfl hi305 dX7_bestCost_305 (fun H locs hP hD hS => ?_)
                                  have hP : va_P (dC, dI) vwCl [(a_m, .inr (7, [.int mkd, .int mrt, .int mri, .int mca, .int mpr, .int men, .ref a_mp, .ref a_me, .int mth, .int mrq, .ref a_mq, .long mtr, .ref a_mr, .ref a_mo, .int mos, .ref a_ml, .ref a_mt, .ref a_mf])), (a_mq, .inl (kA, 16, .inl mqF)), (a_mo, .inl (kA, 96, .inl moF)), (a_ml, .inl (kA, 24, .inl (upd mlF_247 v2_229.toNatClampNeg t0_305))), (a_mt, .inl (kA, 24, .inl mtF_119)), (a_mf, .inl (kA, 576, .inl mfF_2))] H := hP
                                  have hD : va_D A [(a_m, .inr (7, [.int mkd, .int mrt, .int mri, .int mca, .int mpr, .int men, .ref a_mp, .ref a_me, .int mth, .int mrq, .ref a_mq, .long mtr, .ref a_mr, .ref a_mo, .int mos, .ref a_ml, .ref a_mt, .ref a_mf])), (a_mq, .inl (kA, 16, .inl mqF)), (a_mo, .inl (kA, 96, .inl moF)), (a_ml, .inl (kA, 24, .inl (upd mlF_247 v2_229.toNatClampNeg t0_305))), (a_mt, .inl (kA, 24, .inl mtF_119)), (a_mf, .inl (kA, 576, .inl mfF_2))] := hD
                                  refine lv_iinc (v := (v3_247 + (1 : Int32))) (lv' := [(3, .int (v3_247 + (1 : Int32))), (0, .ref a_m), (1, .int v1_109), (2, .int v2_229)]) hx hb dX7_bestCost_306 hl (k := 3) rfl (by rfl) (by decide) rfl (fun ls hl => ?_)
                                  refine lv_goto (tgt := 247) hx hb dX7_bestCost_309 (by decide) ?_
                                  exact ih247 (v3_247 + (1 : Int32)) (upd mlF_247 v2_229.toNatClampNeg t0_305) h _ _ _ hP hD hS (lv_sub hl [1, 2, 3, 0] rfl)
                                obtain ⟨J299, hR299, h⟩ := h
                                have hJ299 : J299 → ∀ (H : Heap) (locs : List Loc) (ls : Array Slot), va_P (dC, dI) vwCl [(a_m, .inr (7, [.int mkd, .int mrt, .int mri, .int mca, .int mpr, .int men, .ref a_mp, .ref a_me, .int mth, .int mrq, .ref a_mq, .long mtr, .ref a_mr, .ref a_mo, .int mos, .ref a_ml, .ref a_mt, .ref a_mf])), (a_mq, .inl (kA, 16, .inl mqF)), (a_mo, .inl (kA, 96, .inl moF)), (a_ml, .inl (kA, 24, .inl mlF_247)), (a_mt, .inl (kA, 24, .inl mtF_119)), (a_mf, .inl (kA, 576, .inl mfF_2))] H → va_D A [(a_m, .inr (7, [.int mkd, .int mrt, .int mri, .int mca, .int mpr, .int men, .ref a_mp, .ref a_me, .int mth, .int mrq, .ref a_mq, .long mtr, .ref a_mr, .ref a_mo, .int mos, .ref a_ml, .ref a_mt, .ref a_mf])), (a_mq, .inl (kA, 16, .inl mqF)), (a_mo, .inl (kA, 96, .inl moF)), (a_ml, .inl (kA, 24, .inl mlF_247)), (a_mt, .inl (kA, 24, .inl mtF_119)), (a_mf, .inl (kA, 576, .inl mfF_2))] → va_S A s.heap H locs → lv_has ls 5 [(0, .ref a_m), (1, .int v1_109), (2, .int v2_229), (3, .int v3_247)] → W p l e (headSpec wsX7_bestCost rmX7_bestCost).room s m args below meth c H locs 0 0 Q (F0 m 299 ls [.int v2_229, .ref a_ml]) := by
                                  intro  h H locs ls hP hD hS hl
                                  replace h := hR299  h
                                  refine lv_aload_n hx hb dX7_bestCost_299 rfl (lv_at hl 0 rfl) ?_
                                  refine va_get (D := (dC, dI)) (ci := 7) (v := .ref a_ml) (C := RX7) (T := TX7) (N := 18) hx hb hts (fun _ h => List.mem_cons_of_mem _ (List.mem_append_right _ h)) hown hK hP 0 rfl rfl 15 (by decide) (hts (.fieldLink RX7 41 "RentOrBuyModel" "least" "[I") (List.mem_cons_of_mem _ (List.mem_append_left _ (List.mem_of_getElem? (i := 3) rfl)))) (fun _ h9 => h9) rfl dX7_bestCost_300 ?_
                                  refine lv_iload_n hx hb dX7_bestCost_303 rfl (lv_at hl 2 rfl) ?_
                                  obtain ⟨hi304, h⟩ := h
                                  refine va_iald hx hb hK hP 3 0 rfl rfl hi304 dX7_bestCost_304 ?_
                                  exact hJ305 (mlF_247 v2_229.toNatClampNeg) h _ _ _ hP hD hS (lv_sub hl [0, 1, 2, 3] rfl)
                                refine lv_icmp_ge (tgt := 299) hx hb dX7_bestCost_272 (by decide) (fun c272 => ?_) (fun c272 => ?_)
                                · replace h := h.1 c272
                                  exact hJ299 h _ _ _ hP hD hS (lv_sub hl [0, 1, 2, 3] rfl)
                                · replace h := h.2 c272
                                  refine lv_aload_n hx hb dX7_bestCost_275 rfl (lv_at hl 0 rfl) ?_
                                  refine lv_iload_n hx hb dX7_bestCost_276 rfl (lv_at hl 3 rfl) ?_
                                  refine lv_iload_n hx hb dX7_bestCost_277 rfl (lv_at hl 2 rfl) ?_
                                  refine lv_aload_n hx hb dX7_bestCost_278 rfl (lv_at hl 0 rfl) ?_
                                  refine va_get (D := (dC, dI)) (ci := 7) (v := .ref a_mq) (C := RX7) (T := TX7) (N := 18) hx hb hts (fun _ h => List.mem_cons_of_mem _ (List.mem_append_right _ h)) hown hK hP 0 rfl rfl 10 (by decide) (hts (.fieldLink RX7 32 "RentOrBuyModel" "request" "[I") (List.mem_cons_of_mem _ (List.mem_append_left _ (List.mem_of_getElem? (i := 8) rfl)))) (fun _ h9 => h9) rfl dX7_bestCost_279 ?_
                                  refine lv_iload_n hx hb dX7_bestCost_282 rfl (lv_at hl 1 rfl) ?_
                                  obtain ⟨hi283, h⟩ := h
                                  refine va_iald hx hb hK hP 1 0 rfl rfl hi283 dX7_bestCost_283 ?_
                                  have hPc := hP.sub (ws' := [(a_m, .inr (7, [.int mkd, .int mrt, .int mri, .int mca, .int mpr, .int men, .ref a_mp, .ref a_me, .int mth, .int mrq, .ref a_mq, .long mtr, .ref a_mr, .ref a_mo, .int mos, .ref a_ml, .ref a_mt, .ref a_mf])), (a_mo, .inl (kA, 96, .inl moF))]) [0, 2] rfl
                                  have hDc := hD.sub (ws' := [(a_m, .inr (7, [.int mkd, .int mrt, .int mri, .int mca, .int mpr, .int men, .ref a_mp, .ref a_me, .int mth, .int mrq, .ref a_mq, .long mtr, .ref a_mr, .ref a_mo, .int mos, .ref a_ml, .ref a_mt, .ref a_mf])), (a_mo, .inl (kA, 96, .inl moF))]) [0, 2] (by decide) rfl
                                  refine fr_i (wr := [(a_mq, .inl (kA, 16, .inl mqF)), (a_ml, .inl (kA, 24, .inl mlF_247)), (a_mt, .inl (kA, 24, .inl mtF_119)), (a_mf, .inl (kA, 576, .inl mfF_2))]) (WN := fun (u284 : Unit) => [(a_m, .inr (7, [.int mkd, .int mrt, .int mri, .int mca, .int mpr, .int men, .ref a_mp, .ref a_me, .int mth, .int mrq, .ref a_mq, .long mtr, .ref a_mr, .ref a_mo, .int mos, .ref a_ml, .ref a_mt, .ref a_mf])), (a_mq, .inl (kA, 16, .inl mqF)), (a_mo, .inl (kA, 96, .inl moF)), (a_ml, .inl (kA, 24, .inl mlF_247)), (a_mt, .inl (kA, 24, .inl mtF_119)), (a_mf, .inl (kA, 576, .inl mfF_2))]) (va_runV (As := [.int v3_247, .int v2_229, .int (mqF v1_109.toNatClampNeg)]) (rest := [.int v2_229, .ref a_ml]) ⟨hx, hb, hml, hown, hts⟩ (c_X7_comesOf l dC dI kA a_m a_mo a_mp a_me a_mq a_mr a_ml a_mt a_mf H.size mkd mrt mri mca mpr men mth mrq mtr mos moF v3_247 v2_229 (mqF v1_109.toNatClampNeg) _ h) (cwV 3 hts gX7_bestCost_X7_comesOf rfl rfl rfl (by decide +kernel) ⟨Nat.le_of_ble_eq_true rfl, Nat.le_of_ble_eq_true rfl⟩) (prW.preV (ci := 7) (q0 := 0) hPc hDc hK hN rfl rfl) rfl rfl hl.1 rfl (lv_room (Nat.le_of_ble_eq_true rfl)) dX7_bestCost_284 ⟨Nat.le_of_ble_eq_true rfl, Nat.le_of_ble_eq_true rfl⟩) hP hD hS hA [0, 2] [1, 3, 4, 5] rfl rfl (by decide) (by decide) [4, 0, 5, 1, 2, 3] (by decide) (fun _ => rfl) (fun r284 u284 H locs h hP hD hS => ?_)
                                  have hP : va_P (dC, dI) vwCl [(a_m, .inr (7, [.int mkd, .int mrt, .int mri, .int mca, .int mpr, .int men, .ref a_mp, .ref a_me, .int mth, .int mrq, .ref a_mq, .long mtr, .ref a_mr, .ref a_mo, .int mos, .ref a_ml, .ref a_mt, .ref a_mf])), (a_mq, .inl (kA, 16, .inl mqF)), (a_mo, .inl (kA, 96, .inl moF)), (a_ml, .inl (kA, 24, .inl mlF_247)), (a_mt, .inl (kA, 24, .inl mtF_119)), (a_mf, .inl (kA, 576, .inl mfF_2))] H := hP
                                  have hD : va_D A [(a_m, .inr (7, [.int mkd, .int mrt, .int mri, .int mca, .int mpr, .int men, .ref a_mp, .ref a_me, .int mth, .int mrq, .ref a_mq, .long mtr, .ref a_mr, .ref a_mo, .int mos, .ref a_ml, .ref a_mt, .ref a_mf])), (a_mq, .inl (kA, 16, .inl mqF)), (a_mo, .inl (kA, 96, .inl moF)), (a_ml, .inl (kA, 24, .inl mlF_247)), (a_mt, .inl (kA, 24, .inl mtF_119)), (a_mf, .inl (kA, 576, .inl mfF_2))] := hD
                                  refine lv_if_eq (tgt := 299) hx hb dX7_bestCost_287 (by decide) (fun c287 => ?_) (fun c287 => ?_)
                                  · replace h := h.1 c287
                                    exact hJ299 h _ _ _ hP hD hS (lv_sub hl [0, 1, 2, 3] rfl)
                                  · replace h := h.2 c287
                                    refine lv_aload_n hx hb dX7_bestCost_290 rfl (lv_at hl 0 rfl) ?_
                                    refine va_get (D := (dC, dI)) (ci := 7) (v := .ref a_mt) (C := RX7) (T := TX7) (N := 18) hx hb hts (fun _ h => List.mem_cons_of_mem _ (List.mem_append_right _ h)) hown hK hP 0 rfl rfl 16 (by decide) (hts (.fieldLink RX7 44 "RentOrBuyModel" "then" "[I") (List.mem_cons_of_mem _ (List.mem_append_left _ (List.mem_of_getElem? (i := 7) rfl)))) (fun _ h9 => h9) rfl dX7_bestCost_291 ?_
                                    refine lv_iload_n hx hb dX7_bestCost_294 rfl (lv_at hl 3 rfl) ?_
                                    obtain ⟨hi295, h⟩ := h
                                    refine va_iald hx hb hK hP 4 0 rfl rfl hi295 dX7_bestCost_295 ?_
                                    refine lv_goto (tgt := 305) hx hb dX7_bestCost_296 (by decide) ?_
                                    exact hJ305 (mtF_119 v3_247.toNatClampNeg) h _ _ _ hP hD hS (lv_sub hl [0, 1, 2, 3] rfl)
                          exact hL247 n247 (0 : Int32) (upd mlF_229 v2_229.toNatClampNeg (1000000 : Int32)) h _ _ _ hP hD hS (lv_sub hl [1, 2, 3, 0] rfl)
                    exact hL229 n229 (0 : Int32) mlF_109 h _ _ _ hP hD hS (lv_sub hl [1, 2, 0] rfl)
                  · replace h := h.2 c124
                    refine lv_aload_n hx hb dX7_bestCost_127 rfl (lv_at hl 0 rfl) ?_
                    refine va_get (D := (dC, dI)) (ci := 7) (v := .ref a_mt) (C := RX7) (T := TX7) (N := 18) hx hb hts (fun _ h => List.mem_cons_of_mem _ (List.mem_append_right _ h)) hown hK hP 0 rfl rfl 16 (by decide) (hts (.fieldLink RX7 44 "RentOrBuyModel" "then" "[I") (List.mem_cons_of_mem _ (List.mem_append_left _ (List.mem_of_getElem? (i := 7) rfl)))) (fun _ h9 => h9) rfl dX7_bestCost_128 ?_
                    refine lv_iload_n hx hb dX7_bestCost_131 rfl (lv_at hl 2 rfl) ?_
                    refine lv_ldc (v := (1000000 : Int32)) hx hb hown (hts (.constant RX7 141 (1000000)) (List.mem_cons_of_mem _ (List.mem_append_left _ (List.mem_of_getElem? (i := 4) rfl)))) dX7_bestCost_132 ?_
                    obtain ⟨hi134, h⟩ := h
                    refine va_iast hx hb hK hP hD hS 4 0 rfl rfl hi134 dX7_bestCost_134 (fun H locs hP hD hS => ?_)
                    have hP : va_P (dC, dI) vwCl [(a_m, .inr (7, [.int mkd, .int mrt, .int mri, .int mca, .int mpr, .int men, .ref a_mp, .ref a_me, .int mth, .int mrq, .ref a_mq, .long mtr, .ref a_mr, .ref a_mo, .int mos, .ref a_ml, .ref a_mt, .ref a_mf])), (a_mq, .inl (kA, 16, .inl mqF)), (a_mo, .inl (kA, 96, .inl moF)), (a_ml, .inl (kA, 24, .inl mlF_109)), (a_mt, .inl (kA, 24, .inl (upd mtF_119 v2_119.toNatClampNeg (1000000 : Int32)))), (a_mf, .inl (kA, 576, .inl mfF_2))] H := hP
                    have hD : va_D A [(a_m, .inr (7, [.int mkd, .int mrt, .int mri, .int mca, .int mpr, .int men, .ref a_mp, .ref a_me, .int mth, .int mrq, .ref a_mq, .long mtr, .ref a_mr, .ref a_mo, .int mos, .ref a_ml, .ref a_mt, .ref a_mf])), (a_mq, .inl (kA, 16, .inl mqF)), (a_mo, .inl (kA, 96, .inl moF)), (a_ml, .inl (kA, 24, .inl mlF_109)), (a_mt, .inl (kA, 24, .inl (upd mtF_119 v2_119.toNatClampNeg (1000000 : Int32)))), (a_mf, .inl (kA, 576, .inl mfF_2))] := hD
                    refine lv_iconst (v := (0 : Int32)) hx hb dX7_bestCost_135 (by decide +kernel) ?_
                    refine lv_istore_n (lv' := [(3, .int (0 : Int32)), (0, .ref a_m), (1, .int v1_109), (2, .int v2_119)]) hx hb dX7_bestCost_136 rfl hl (by decide) rfl (fun ls hl => ?_)
                    obtain ⟨J137, ⟨n137, h⟩, hz137, hs137⟩ := h
                    have hL137 : ∀ (n137 : Nat) (v3_137 : Int32) (mtF_137 : Nat → Int32), J137 n137 v3_137 mtF_137 → ∀ (H : Heap) (locs : List Loc) (ls : Array Slot), va_P (dC, dI) vwCl [(a_m, .inr (7, [.int mkd, .int mrt, .int mri, .int mca, .int mpr, .int men, .ref a_mp, .ref a_me, .int mth, .int mrq, .ref a_mq, .long mtr, .ref a_mr, .ref a_mo, .int mos, .ref a_ml, .ref a_mt, .ref a_mf])), (a_mq, .inl (kA, 16, .inl mqF)), (a_mo, .inl (kA, 96, .inl moF)), (a_ml, .inl (kA, 24, .inl mlF_109)), (a_mt, .inl (kA, 24, .inl mtF_137)), (a_mf, .inl (kA, 576, .inl mfF_2))] H → va_D A [(a_m, .inr (7, [.int mkd, .int mrt, .int mri, .int mca, .int mpr, .int men, .ref a_mp, .ref a_me, .int mth, .int mrq, .ref a_mq, .long mtr, .ref a_mr, .ref a_mo, .int mos, .ref a_ml, .ref a_mt, .ref a_mf])), (a_mq, .inl (kA, 16, .inl mqF)), (a_mo, .inl (kA, 96, .inl moF)), (a_ml, .inl (kA, 24, .inl mlF_109)), (a_mt, .inl (kA, 24, .inl mtF_137)), (a_mf, .inl (kA, 576, .inl mfF_2))] → va_S A s.heap H locs → lv_has ls 5 [(0, .ref a_m), (1, .int v1_109), (2, .int v2_119), (3, .int v3_137)] → W p l e (headSpec wsX7_bestCost rmX7_bestCost).room s m args below meth c H locs 0 0 Q (F0 m 137 ls []) := by
                      intro n137
                      induction n137 with
                      | zero => intro v3_137 mtF_137 h; exact absurd h (hz137 v3_137 mtF_137)
                      | succ n137 ih137 =>
                        intro v3_137 mtF_137 h H locs ls hP hD hS hl
                        replace h := hs137 n137 v3_137 mtF_137 h
                        refine lv_iload_n hx hb dX7_bestCost_137 rfl (lv_at hl 3 rfl) ?_
                        refine lv_aload_n hx hb dX7_bestCost_138 rfl (lv_at hl 0 rfl) ?_
                        refine va_get (D := (dC, dI)) (ci := 7) (v := .int mos) (C := RX7) (T := TX7) (N := 18) hx hb hts (fun _ h => List.mem_cons_of_mem _ (List.mem_append_right _ h)) hown hK hP 0 rfl rfl 14 (by decide) (hts (.fieldLink RX7 135 "RentOrBuyModel" "orders" "I") (List.mem_cons_of_mem _ (List.mem_append_left _ (List.mem_of_getElem? (i := 0) rfl)))) (fun _ h9 => h9) rfl dX7_bestCost_139 ?_
                        refine lv_icmp_ge (tgt := 199) hx hb dX7_bestCost_142 (by decide) (fun c142 => ?_) (fun c142 => ?_)
                        · replace h := h.1 c142
                          refine lv_aload_n hx hb dX7_bestCost_199 rfl (lv_at hl 0 rfl) ?_
                          refine va_get (D := (dC, dI)) (ci := 7) (v := .ref a_mt) (C := RX7) (T := TX7) (N := 18) hx hb hts (fun _ h => List.mem_cons_of_mem _ (List.mem_append_right _ h)) hown hK hP 0 rfl rfl 16 (by decide) (hts (.fieldLink RX7 44 "RentOrBuyModel" "then" "[I") (List.mem_cons_of_mem _ (List.mem_append_left _ (List.mem_of_getElem? (i := 7) rfl)))) (fun _ h9 => h9) rfl dX7_bestCost_200 ?_
                          refine lv_iload_n hx hb dX7_bestCost_203 rfl (lv_at hl 2 rfl) ?_
                          refine lv_dup2_11 hx hb dX7_bestCost_204 rfl rfl ?_
                          obtain ⟨hi205, h⟩ := h
                          refine va_iald hx hb hK hP 4 0 rfl rfl hi205 dX7_bestCost_205 ?_
                          refine lv_aload_n hx hb dX7_bestCost_206 rfl (lv_at hl 0 rfl) ?_
                          refine lv_iload_n hx hb dX7_bestCost_207 rfl (lv_at hl 2 rfl) ?_
                          refine lv_aload_n hx hb dX7_bestCost_208 rfl (lv_at hl 0 rfl) ?_
                          refine va_get (D := (dC, dI)) (ci := 7) (v := .ref a_mq) (C := RX7) (T := TX7) (N := 18) hx hb hts (fun _ h => List.mem_cons_of_mem _ (List.mem_append_right _ h)) hown hK hP 0 rfl rfl 10 (by decide) (hts (.fieldLink RX7 32 "RentOrBuyModel" "request" "[I") (List.mem_cons_of_mem _ (List.mem_append_left _ (List.mem_of_getElem? (i := 8) rfl)))) (fun _ h9 => h9) rfl dX7_bestCost_209 ?_
                          refine lv_iload_n hx hb dX7_bestCost_212 rfl (lv_at hl 1 rfl) ?_
                          obtain ⟨hi213, h⟩ := h
                          refine va_iald hx hb hK hP 1 0 rfl rfl hi213 dX7_bestCost_213 ?_
                          have hPc := hP.sub (ws' := [(a_m, .inr (7, [.int mkd, .int mrt, .int mri, .int mca, .int mpr, .int men, .ref a_mp, .ref a_me, .int mth, .int mrq, .ref a_mq, .long mtr, .ref a_mr, .ref a_mo, .int mos, .ref a_ml, .ref a_mt, .ref a_mf])), (a_mo, .inl (kA, 96, .inl moF))]) [0, 2] rfl
                          have hDc := hD.sub (ws' := [(a_m, .inr (7, [.int mkd, .int mrt, .int mri, .int mca, .int mpr, .int men, .ref a_mp, .ref a_me, .int mth, .int mrq, .ref a_mq, .long mtr, .ref a_mr, .ref a_mo, .int mos, .ref a_ml, .ref a_mt, .ref a_mf])), (a_mo, .inl (kA, 96, .inl moF))]) [0, 2] (by decide) rfl
                          refine fr_i (wr := [(a_mq, .inl (kA, 16, .inl mqF)), (a_ml, .inl (kA, 24, .inl mlF_109)), (a_mt, .inl (kA, 24, .inl mtF_137)), (a_mf, .inl (kA, 576, .inl mfF_2))]) (WN := fun (u214 : Unit) => [(a_m, .inr (7, [.int mkd, .int mrt, .int mri, .int mca, .int mpr, .int men, .ref a_mp, .ref a_me, .int mth, .int mrq, .ref a_mq, .long mtr, .ref a_mr, .ref a_mo, .int mos, .ref a_ml, .ref a_mt, .ref a_mf])), (a_mq, .inl (kA, 16, .inl mqF)), (a_mo, .inl (kA, 96, .inl moF)), (a_ml, .inl (kA, 24, .inl mlF_109)), (a_mt, .inl (kA, 24, .inl mtF_137)), (a_mf, .inl (kA, 576, .inl mfF_2))]) (va_runV (As := [.int v2_119, .int (mqF v1_109.toNatClampNeg)]) (rest := [.int (mtF_137 v2_119.toNatClampNeg), .int v2_119, .ref a_mt]) ⟨hx, hb, hml, hown, hts⟩ (c_X7_placeIn l dC dI kA a_m a_mo a_mp a_me a_mq a_mr a_ml a_mt a_mf H.size mkd mrt mri mca mpr men mth mrq mtr mos moF v2_119 (mqF v1_109.toNatClampNeg) _ h) (cwV 2 hts gX7_bestCost_X7_placeIn rfl rfl rfl (by decide +kernel) ⟨Nat.le_of_ble_eq_true rfl, Nat.le_of_ble_eq_true rfl⟩) (prW.preV (ci := 7) (q0 := 0) hPc hDc hK hN rfl rfl) rfl rfl hl.1 rfl (lv_room (Nat.le_of_ble_eq_true rfl)) dX7_bestCost_214 ⟨Nat.le_of_ble_eq_true rfl, Nat.le_of_ble_eq_true rfl⟩) hP hD hS hA [0, 2] [1, 3, 4, 5] rfl rfl (by decide) (by decide) [4, 0, 5, 1, 2, 3] (by decide) (fun _ => rfl) (fun r214 u214 H locs h hP hD hS => ?_)
                          have hP : va_P (dC, dI) vwCl [(a_m, .inr (7, [.int mkd, .int mrt, .int mri, .int mca, .int mpr, .int men, .ref a_mp, .ref a_me, .int mth, .int mrq, .ref a_mq, .long mtr, .ref a_mr, .ref a_mo, .int mos, .ref a_ml, .ref a_mt, .ref a_mf])), (a_mq, .inl (kA, 16, .inl mqF)), (a_mo, .inl (kA, 96, .inl moF)), (a_ml, .inl (kA, 24, .inl mlF_109)), (a_mt, .inl (kA, 24, .inl mtF_137)), (a_mf, .inl (kA, 576, .inl mfF_2))] H := hP
                          have hD : va_D A [(a_m, .inr (7, [.int mkd, .int mrt, .int mri, .int mca, .int mpr, .int men, .ref a_mp, .ref a_me, .int mth, .int mrq, .ref a_mq, .long mtr, .ref a_mr, .ref a_mo, .int mos, .ref a_ml, .ref a_mt, .ref a_mf])), (a_mq, .inl (kA, 16, .inl mqF)), (a_mo, .inl (kA, 96, .inl moF)), (a_ml, .inl (kA, 24, .inl mlF_109)), (a_mt, .inl (kA, 24, .inl mtF_137)), (a_mf, .inl (kA, 576, .inl mfF_2))] := hD
                          refine lv_iconst (v := (1 : Int32)) hx hb dX7_bestCost_217 (by decide +kernel) ?_
                          refine lv_iadd hx hb dX7_bestCost_218 ?_
                          refine lv_iadd hx hb dX7_bestCost_219 ?_
                          obtain ⟨hi220, h⟩ := h
                          refine va_iast hx hb hK hP hD hS 4 0 rfl rfl hi220 dX7_bestCost_220 (fun H locs hP hD hS => ?_)
                          have hP : va_P (dC, dI) vwCl [(a_m, .inr (7, [.int mkd, .int mrt, .int mri, .int mca, .int mpr, .int men, .ref a_mp, .ref a_me, .int mth, .int mrq, .ref a_mq, .long mtr, .ref a_mr, .ref a_mo, .int mos, .ref a_ml, .ref a_mt, .ref a_mf])), (a_mq, .inl (kA, 16, .inl mqF)), (a_mo, .inl (kA, 96, .inl moF)), (a_ml, .inl (kA, 24, .inl mlF_109)), (a_mt, .inl (kA, 24, .inl (upd mtF_137 v2_119.toNatClampNeg ((mtF_137 v2_119.toNatClampNeg) + (r214 + (1 : Int32)))))), (a_mf, .inl (kA, 576, .inl mfF_2))] H := hP
                          have hD : va_D A [(a_m, .inr (7, [.int mkd, .int mrt, .int mri, .int mca, .int mpr, .int men, .ref a_mp, .ref a_me, .int mth, .int mrq, .ref a_mq, .long mtr, .ref a_mr, .ref a_mo, .int mos, .ref a_ml, .ref a_mt, .ref a_mf])), (a_mq, .inl (kA, 16, .inl mqF)), (a_mo, .inl (kA, 96, .inl moF)), (a_ml, .inl (kA, 24, .inl mlF_109)), (a_mt, .inl (kA, 24, .inl (upd mtF_137 v2_119.toNatClampNeg ((mtF_137 v2_119.toNatClampNeg) + (r214 + (1 : Int32)))))), (a_mf, .inl (kA, 576, .inl mfF_2))] := hD
                          refine lv_iinc (v := (v2_119 + (1 : Int32))) (lv' := [(2, .int (v2_119 + (1 : Int32))), (0, .ref a_m), (1, .int v1_109), (3, .int v3_137)]) hx hb dX7_bestCost_221 hl (k := 2) rfl (by rfl) (by decide) rfl (fun ls hl => ?_)
                          refine lv_goto (tgt := 119) hx hb dX7_bestCost_224 (by decide) ?_
                          exact ih119 (v2_119 + (1 : Int32)) (upd mtF_137 v2_119.toNatClampNeg ((mtF_137 v2_119.toNatClampNeg) + (r214 + (1 : Int32)))) h _ _ _ hP hD hS (lv_sub hl [1, 2, 0] rfl)
                        · replace h := h.2 c142
                          refine lv_aload_n hx hb dX7_bestCost_145 rfl (lv_at hl 0 rfl) ?_
                          refine va_get (D := (dC, dI)) (ci := 7) (v := .ref a_ml) (C := RX7) (T := TX7) (N := 18) hx hb hts (fun _ h => List.mem_cons_of_mem _ (List.mem_append_right _ h)) hown hK hP 0 rfl rfl 15 (by decide) (hts (.fieldLink RX7 41 "RentOrBuyModel" "least" "[I") (List.mem_cons_of_mem _ (List.mem_append_left _ (List.mem_of_getElem? (i := 3) rfl)))) (fun _ h9 => h9) rfl dX7_bestCost_146 ?_
                          refine lv_iload_n hx hb dX7_bestCost_149 rfl (lv_at hl 3 rfl) ?_
                          obtain ⟨hi150, h⟩ := h
                          refine va_iald hx hb hK hP 3 0 rfl rfl hi150 dX7_bestCost_150 ?_
                          refine lv_aload_n hx hb dX7_bestCost_151 rfl (lv_at hl 0 rfl) ?_
                          refine va_get (D := (dC, dI)) (ci := 7) (v := .ref a_mf) (C := RX7) (T := TX7) (N := 18) hx hb hts (fun _ h => List.mem_cons_of_mem _ (List.mem_append_right _ h)) hown hK hP 0 rfl rfl 17 (by decide) (hts (.fieldLink RX7 47 "RentOrBuyModel" "far" "[I") (List.mem_cons_of_mem _ (List.mem_append_left _ (List.mem_of_getElem? (i := 5) rfl)))) (fun _ h9 => h9) rfl dX7_bestCost_152 ?_
                          refine lv_bipush (v := (24 : Int32)) hx hb dX7_bestCost_155 (by decide +kernel) ?_
                          refine lv_iload_n hx hb dX7_bestCost_157 rfl (lv_at hl 3 rfl) ?_
                          refine lv_imul hx hb dX7_bestCost_158 ?_
                          refine lv_iload_n hx hb dX7_bestCost_159 rfl (lv_at hl 2 rfl) ?_
                          refine lv_iadd hx hb dX7_bestCost_160 ?_
                          obtain ⟨hi161, h⟩ := h
                          refine va_iald hx hb hK hP 5 0 rfl rfl hi161 dX7_bestCost_161 ?_
                          refine lv_iadd hx hb dX7_bestCost_162 ?_
                          refine lv_istore (lv' := [(4, .int ((mlF_109 v3_137.toNatClampNeg) + (mfF_2 (((24 : Int32) * v3_137) + v2_119).toNatClampNeg))), (0, .ref a_m), (1, .int v1_109), (2, .int v2_119), (3, .int v3_137)]) hx hb dX7_bestCost_163 hl (by decide) rfl (fun ls hl => ?_)
                          refine lv_aload_n hx hb dX7_bestCost_165 rfl (lv_at hl 1 rfl) ?_
                          refine va_get (D := (dC, dI)) (ci := 7) (v := .ref a_mt) (C := RX7) (T := TX7) (N := 18) hx hb hts (fun _ h => List.mem_cons_of_mem _ (List.mem_append_right _ h)) hown hK hP 0 rfl rfl 16 (by decide) (hts (.fieldLink RX7 44 "RentOrBuyModel" "then" "[I") (List.mem_cons_of_mem _ (List.mem_append_left _ (List.mem_of_getElem? (i := 7) rfl)))) (fun _ h9 => h9) rfl dX7_bestCost_166 ?_
                          refine lv_iload_n hx hb dX7_bestCost_169 rfl (lv_at hl 3 rfl) ?_
                          refine lv_iload hx hb dX7_bestCost_170 (lv_at hl 0 rfl) ?_
                          refine lv_aload_n hx hb dX7_bestCost_172 rfl (lv_at hl 1 rfl) ?_
                          refine va_get (D := (dC, dI)) (ci := 7) (v := .ref a_mt) (C := RX7) (T := TX7) (N := 18) hx hb hts (fun _ h => List.mem_cons_of_mem _ (List.mem_append_right _ h)) hown hK hP 0 rfl rfl 16 (by decide) (hts (.fieldLink RX7 44 "RentOrBuyModel" "then" "[I") (List.mem_cons_of_mem _ (List.mem_append_left _ (List.mem_of_getElem? (i := 7) rfl)))) (fun _ h9 => h9) rfl dX7_bestCost_173 ?_
                          refine lv_iload_n hx hb dX7_bestCost_176 rfl (lv_at hl 3 rfl) ?_
                          obtain ⟨hi177, h⟩ := h
                          refine va_iald hx hb hK hP 4 0 rfl rfl hi177 dX7_bestCost_177 ?_
                          obtain ⟨J192, hR192, h⟩ := h
                          have hJ192 : ∀ (t0_192 : Int32), J192 t0_192 → ∀ (H : Heap) (locs : List Loc) (ls : Array Slot), va_P (dC, dI) vwCl [(a_m, .inr (7, [.int mkd, .int mrt, .int mri, .int mca, .int mpr, .int men, .ref a_mp, .ref a_me, .int mth, .int mrq, .ref a_mq, .long mtr, .ref a_mr, .ref a_mo, .int mos, .ref a_ml, .ref a_mt, .ref a_mf])), (a_mq, .inl (kA, 16, .inl mqF)), (a_mo, .inl (kA, 96, .inl moF)), (a_ml, .inl (kA, 24, .inl mlF_109)), (a_mt, .inl (kA, 24, .inl mtF_137)), (a_mf, .inl (kA, 576, .inl mfF_2))] H → va_D A [(a_m, .inr (7, [.int mkd, .int mrt, .int mri, .int mca, .int mpr, .int men, .ref a_mp, .ref a_me, .int mth, .int mrq, .ref a_mq, .long mtr, .ref a_mr, .ref a_mo, .int mos, .ref a_ml, .ref a_mt, .ref a_mf])), (a_mq, .inl (kA, 16, .inl mqF)), (a_mo, .inl (kA, 96, .inl moF)), (a_ml, .inl (kA, 24, .inl mlF_109)), (a_mt, .inl (kA, 24, .inl mtF_137)), (a_mf, .inl (kA, 576, .inl mfF_2))] → va_S A s.heap H locs → lv_has ls 5 [(0, .ref a_m), (1, .int v1_109), (2, .int v2_119), (3, .int v3_137)] → W p l e (headSpec wsX7_bestCost rmX7_bestCost).room s m args below meth c H locs 0 0 Q (F0 m 192 ls [.int t0_192, .int v2_119, .ref a_mt]) := by
                            intro t0_192 h H locs ls hP hD hS hl
                            replace h := hR192 t0_192 h
                            obtain ⟨hi192, h⟩ := h
                            refine va_iast hx hb hK hP hD hS 4 0 rfl rfl hi192 dX7_bestCost_192 (fun H locs hP hD hS => ?_)
                            have hP : va_P (dC, dI) vwCl [(a_m, .inr (7, [.int mkd, .int mrt, .int mri, .int mca, .int mpr, .int men, .ref a_mp, .ref a_me, .int mth, .int mrq, .ref a_mq, .long mtr, .ref a_mr, .ref a_mo, .int mos, .ref a_ml, .ref a_mt, .ref a_mf])), (a_mq, .inl (kA, 16, .inl mqF)), (a_mo, .inl (kA, 96, .inl moF)), (a_ml, .inl (kA, 24, .inl mlF_109)), (a_mt, .inl (kA, 24, .inl (upd mtF_137 v2_119.toNatClampNeg t0_192))), (a_mf, .inl (kA, 576, .inl mfF_2))] H := hP
                            have hD : va_D A [(a_m, .inr (7, [.int mkd, .int mrt, .int mri, .int mca, .int mpr, .int men, .ref a_mp, .ref a_me, .int mth, .int mrq, .ref a_mq, .long mtr, .ref a_mr, .ref a_mo, .int mos, .ref a_ml, .ref a_mt, .ref a_mf])), (a_mq, .inl (kA, 16, .inl mqF)), (a_mo, .inl (kA, 96, .inl moF)), (a_ml, .inl (kA, 24, .inl mlF_109)), (a_mt, .inl (kA, 24, .inl (upd mtF_137 v2_119.toNatClampNeg t0_192))), (a_mf, .inl (kA, 576, .inl mfF_2))] := hD
                            refine lv_iinc (v := (v3_137 + (1 : Int32))) (lv' := [(3, .int (v3_137 + (1 : Int32))), (0, .ref a_m), (1, .int v1_109), (2, .int v2_119)]) hx hb dX7_bestCost_193 hl (k := 3) rfl (by rfl) (by decide) rfl (fun ls hl => ?_)
                            refine lv_goto (tgt := 137) hx hb dX7_bestCost_196 (by decide) ?_
                            exact ih137 (v3_137 + (1 : Int32)) (upd mtF_137 v2_119.toNatClampNeg t0_192) h _ _ _ hP hD hS (lv_sub hl [1, 2, 3, 0] rfl)
                          refine lv_icmp_ge (tgt := 186) hx hb dX7_bestCost_178 (by decide) (fun c178 => ?_) (fun c178 => ?_)
                          · replace h := h.1 c178
                            refine lv_aload_n hx hb dX7_bestCost_186 rfl (lv_at hl 1 rfl) ?_
                            refine va_get (D := (dC, dI)) (ci := 7) (v := .ref a_mt) (C := RX7) (T := TX7) (N := 18) hx hb hts (fun _ h => List.mem_cons_of_mem _ (List.mem_append_right _ h)) hown hK hP 0 rfl rfl 16 (by decide) (hts (.fieldLink RX7 44 "RentOrBuyModel" "then" "[I") (List.mem_cons_of_mem _ (List.mem_append_left _ (List.mem_of_getElem? (i := 7) rfl)))) (fun _ h9 => h9) rfl dX7_bestCost_187 ?_
                            refine lv_iload_n hx hb dX7_bestCost_190 rfl (lv_at hl 3 rfl) ?_
                            obtain ⟨hi191, h⟩ := h
                            refine va_iald hx hb hK hP 4 0 rfl rfl hi191 dX7_bestCost_191 ?_
                            exact hJ192 (mtF_137 v2_119.toNatClampNeg) h _ _ _ hP hD hS (lv_sub hl [1, 2, 3, 4] rfl)
                          · replace h := h.2 c178
                            refine lv_iload hx hb dX7_bestCost_181 (lv_at hl 0 rfl) ?_
                            refine lv_goto (tgt := 192) hx hb dX7_bestCost_183 (by decide) ?_
                            exact hJ192 ((mlF_109 v3_137.toNatClampNeg) + (mfF_2 (((24 : Int32) * v3_137) + v2_119).toNatClampNeg)) h _ _ _ hP hD hS (lv_sub hl [1, 2, 3, 4] rfl)
                    exact hL137 n137 (0 : Int32) (upd mtF_119 v2_119.toNatClampNeg (1000000 : Int32)) h _ _ _ hP hD hS (lv_sub hl [1, 2, 3, 0] rfl)
              exact hL119 n119 (0 : Int32) mtF_109 h _ _ _ hP hD hS (lv_sub hl [1, 2, 0] rfl)
        exact hL109 n109 (0 : Int32) mlF_2 mtF h _ _ _ hP hD hS (lv_sub hl [1, 0] rfl)
      · replace h := h.2 c7
        refine lv_iconst (v := (1 : Int32)) hx hb dX7_bestCost_10 (by decide +kernel) ?_
        refine lv_istore_n (lv' := [(2, .int (1 : Int32)), (0, .ref a_m), (1, .int v1_2)]) hx hb dX7_bestCost_11 rfl hl (by decide) rfl (fun ls hl => ?_)
        refine lv_iconst (v := (0 : Int32)) hx hb dX7_bestCost_12 (by decide +kernel) ?_
        refine lv_istore_n (lv' := [(3, .int (0 : Int32)), (2, .int (1 : Int32)), (0, .ref a_m), (1, .int v1_2)]) hx hb dX7_bestCost_13 rfl hl (by decide) rfl (fun ls hl => ?_)
        obtain ⟨J14, ⟨n14, h⟩, hz14, hs14⟩ := h
        have hL14 : ∀ (n14 : Nat) (v2_14 : Int32) (v3_14 : Int32), J14 n14 v2_14 v3_14 → ∀ (H : Heap) (locs : List Loc) (ls : Array Slot), va_P (dC, dI) vwCl [(a_m, .inr (7, [.int mkd, .int mrt, .int mri, .int mca, .int mpr, .int men, .ref a_mp, .ref a_me, .int mth, .int mrq, .ref a_mq, .long mtr, .ref a_mr, .ref a_mo, .int mos, .ref a_ml, .ref a_mt, .ref a_mf])), (a_mq, .inl (kA, 16, .inl mqF)), (a_mo, .inl (kA, 96, .inl moF)), (a_ml, .inl (kA, 24, .inl mlF_2)), (a_mt, .inl (kA, 24, .inl mtF)), (a_mf, .inl (kA, 576, .inl mfF_2))] H → va_D A [(a_m, .inr (7, [.int mkd, .int mrt, .int mri, .int mca, .int mpr, .int men, .ref a_mp, .ref a_me, .int mth, .int mrq, .ref a_mq, .long mtr, .ref a_mr, .ref a_mo, .int mos, .ref a_ml, .ref a_mt, .ref a_mf])), (a_mq, .inl (kA, 16, .inl mqF)), (a_mo, .inl (kA, 96, .inl moF)), (a_ml, .inl (kA, 24, .inl mlF_2)), (a_mt, .inl (kA, 24, .inl mtF)), (a_mf, .inl (kA, 576, .inl mfF_2))] → va_S A s.heap H locs → lv_has ls 5 [(0, .ref a_m), (1, .int v1_2), (2, .int v2_14), (3, .int v3_14)] → W p l e (headSpec wsX7_bestCost rmX7_bestCost).room s m args below meth c H locs 0 0 Q (F0 m 14 ls []) := by
          intro n14
          induction n14 with
          | zero => intro v2_14 v3_14 h; exact absurd h (hz14 v2_14 v3_14)
          | succ n14 ih14 =>
            intro v2_14 v3_14 h H locs ls hP hD hS hl
            replace h := hs14 n14 v2_14 v3_14 h
            refine lv_iload_n hx hb dX7_bestCost_14 rfl (lv_at hl 3 rfl) ?_
            refine lv_aload_n hx hb dX7_bestCost_15 rfl (lv_at hl 0 rfl) ?_
            refine va_get (D := (dC, dI)) (ci := 7) (v := .int mth) (C := RX7) (T := TX7) (N := 18) hx hb hts (fun _ h => List.mem_cons_of_mem _ (List.mem_append_right _ h)) hown hK hP 0 rfl rfl 8 (by decide) (hts (.fieldLink RX7 29 "RentOrBuyModel" "things" "I") (List.mem_cons_of_mem _ (List.mem_append_left _ (List.mem_of_getElem? (i := 1) rfl)))) (fun _ h9 => h9) rfl dX7_bestCost_16 ?_
            refine lv_icmp_ge (tgt := 52) hx hb dX7_bestCost_19 (by decide) (fun c19 => ?_) (fun c19 => ?_)
            · replace h := h.1 c19
              refine lv_aload_n hx hb dX7_bestCost_52 rfl (lv_at hl 0 rfl) ?_
              refine va_get (D := (dC, dI)) (ci := 7) (v := .ref a_ml) (C := RX7) (T := TX7) (N := 18) hx hb hts (fun _ h => List.mem_cons_of_mem _ (List.mem_append_right _ h)) hown hK hP 0 rfl rfl 15 (by decide) (hts (.fieldLink RX7 41 "RentOrBuyModel" "least" "[I") (List.mem_cons_of_mem _ (List.mem_append_left _ (List.mem_of_getElem? (i := 3) rfl)))) (fun _ h9 => h9) rfl dX7_bestCost_53 ?_
              refine lv_iload_n hx hb dX7_bestCost_56 rfl (lv_at hl 1 rfl) ?_
              refine lv_iload_n hx hb dX7_bestCost_57 rfl (lv_at hl 2 rfl) ?_
              obtain ⟨J67, hR67, h⟩ := h
              have hJ67 : ∀ (t0_67 : Int32), J67 t0_67 → ∀ (H : Heap) (locs : List Loc) (ls : Array Slot), va_P (dC, dI) vwCl [(a_m, .inr (7, [.int mkd, .int mrt, .int mri, .int mca, .int mpr, .int men, .ref a_mp, .ref a_me, .int mth, .int mrq, .ref a_mq, .long mtr, .ref a_mr, .ref a_mo, .int mos, .ref a_ml, .ref a_mt, .ref a_mf])), (a_mq, .inl (kA, 16, .inl mqF)), (a_mo, .inl (kA, 96, .inl moF)), (a_ml, .inl (kA, 24, .inl mlF_2)), (a_mt, .inl (kA, 24, .inl mtF)), (a_mf, .inl (kA, 576, .inl mfF_2))] H → va_D A [(a_m, .inr (7, [.int mkd, .int mrt, .int mri, .int mca, .int mpr, .int men, .ref a_mp, .ref a_me, .int mth, .int mrq, .ref a_mq, .long mtr, .ref a_mr, .ref a_mo, .int mos, .ref a_ml, .ref a_mt, .ref a_mf])), (a_mq, .inl (kA, 16, .inl mqF)), (a_mo, .inl (kA, 96, .inl moF)), (a_ml, .inl (kA, 24, .inl mlF_2)), (a_mt, .inl (kA, 24, .inl mtF)), (a_mf, .inl (kA, 576, .inl mfF_2))] → va_S A s.heap H locs → lv_has ls 5 [(0, .ref a_m), (1, .int v1_2)] → W p l e (headSpec wsX7_bestCost rmX7_bestCost).room s m args below meth c H locs 0 0 Q (F0 m 67 ls [.int t0_67, .int v1_2, .ref a_ml]) := by
                intro t0_67 h H locs ls hP hD hS hl
                replace h := hR67 t0_67 h
                obtain ⟨hi67, h⟩ := h
                refine va_iast hx hb hK hP hD hS 3 0 rfl rfl hi67 dX7_bestCost_67 (fun H locs hP hD hS => ?_)
                have hP : va_P (dC, dI) vwCl [(a_m, .inr (7, [.int mkd, .int mrt, .int mri, .int mca, .int mpr, .int men, .ref a_mp, .ref a_me, .int mth, .int mrq, .ref a_mq, .long mtr, .ref a_mr, .ref a_mo, .int mos, .ref a_ml, .ref a_mt, .ref a_mf])), (a_mq, .inl (kA, 16, .inl mqF)), (a_mo, .inl (kA, 96, .inl moF)), (a_ml, .inl (kA, 24, .inl (upd mlF_2 v1_2.toNatClampNeg t0_67))), (a_mt, .inl (kA, 24, .inl mtF)), (a_mf, .inl (kA, 576, .inl mfF_2))] H := hP
                have hD : va_D A [(a_m, .inr (7, [.int mkd, .int mrt, .int mri, .int mca, .int mpr, .int men, .ref a_mp, .ref a_me, .int mth, .int mrq, .ref a_mq, .long mtr, .ref a_mr, .ref a_mo, .int mos, .ref a_ml, .ref a_mt, .ref a_mf])), (a_mq, .inl (kA, 16, .inl mqF)), (a_mo, .inl (kA, 96, .inl moF)), (a_ml, .inl (kA, 24, .inl (upd mlF_2 v1_2.toNatClampNeg t0_67))), (a_mt, .inl (kA, 24, .inl mtF)), (a_mf, .inl (kA, 576, .inl mfF_2))] := hD
                refine lv_iconst (v := (0 : Int32)) hx hb dX7_bestCost_68 (by decide +kernel) ?_
                refine lv_istore_n (lv' := [(3, .int (0 : Int32)), (0, .ref a_m), (1, .int v1_2)]) hx hb dX7_bestCost_69 rfl hl (by decide) rfl (fun ls hl => ?_)
                obtain ⟨J70, ⟨n70, h⟩, hz70, hs70⟩ := h
                have hL70 : ∀ (n70 : Nat) (v3_70 : Int32) (mfF_70 : Nat → Int32), J70 n70 v3_70 mfF_70 → ∀ (H : Heap) (locs : List Loc) (ls : Array Slot), va_P (dC, dI) vwCl [(a_m, .inr (7, [.int mkd, .int mrt, .int mri, .int mca, .int mpr, .int men, .ref a_mp, .ref a_me, .int mth, .int mrq, .ref a_mq, .long mtr, .ref a_mr, .ref a_mo, .int mos, .ref a_ml, .ref a_mt, .ref a_mf])), (a_mq, .inl (kA, 16, .inl mqF)), (a_mo, .inl (kA, 96, .inl moF)), (a_ml, .inl (kA, 24, .inl (upd mlF_2 v1_2.toNatClampNeg t0_67))), (a_mt, .inl (kA, 24, .inl mtF)), (a_mf, .inl (kA, 576, .inl mfF_70))] H → va_D A [(a_m, .inr (7, [.int mkd, .int mrt, .int mri, .int mca, .int mpr, .int men, .ref a_mp, .ref a_me, .int mth, .int mrq, .ref a_mq, .long mtr, .ref a_mr, .ref a_mo, .int mos, .ref a_ml, .ref a_mt, .ref a_mf])), (a_mq, .inl (kA, 16, .inl mqF)), (a_mo, .inl (kA, 96, .inl moF)), (a_ml, .inl (kA, 24, .inl (upd mlF_2 v1_2.toNatClampNeg t0_67))), (a_mt, .inl (kA, 24, .inl mtF)), (a_mf, .inl (kA, 576, .inl mfF_70))] → va_S A s.heap H locs → lv_has ls 5 [(0, .ref a_m), (1, .int v1_2), (3, .int v3_70)] → W p l e (headSpec wsX7_bestCost rmX7_bestCost).room s m args below meth c H locs 0 0 Q (F0 m 70 ls []) := by
                  intro n70
                  induction n70 with
                  | zero => intro v3_70 mfF_70 h; exact absurd h (hz70 v3_70 mfF_70)
                  | succ n70 ih70 =>
                    intro v3_70 mfF_70 h H locs ls hP hD hS hl
                    replace h := hs70 n70 v3_70 mfF_70 h
                    refine lv_iload_n hx hb dX7_bestCost_70 rfl (lv_at hl 2 rfl) ?_
                    refine lv_aload_n hx hb dX7_bestCost_71 rfl (lv_at hl 0 rfl) ?_
                    refine va_get (D := (dC, dI)) (ci := 7) (v := .int mos) (C := RX7) (T := TX7) (N := 18) hx hb hts (fun _ h => List.mem_cons_of_mem _ (List.mem_append_right _ h)) hown hK hP 0 rfl rfl 14 (by decide) (hts (.fieldLink RX7 135 "RentOrBuyModel" "orders" "I") (List.mem_cons_of_mem _ (List.mem_append_left _ (List.mem_of_getElem? (i := 0) rfl)))) (fun _ h9 => h9) rfl dX7_bestCost_72 ?_
                    refine lv_icmp_ge (tgt := 101) hx hb dX7_bestCost_75 (by decide) (fun c75 => ?_) (fun c75 => ?_)
                    · replace h := h.1 c75
                      refine lv_iinc (v := (v1_2 + (1 : Int32))) (lv' := [(1, .int (v1_2 + (1 : Int32))), (0, .ref a_m), (3, .int v3_70)]) hx hb dX7_bestCost_101 hl (k := 1) rfl (by rfl) (by decide) rfl (fun ls hl => ?_)
                      refine lv_goto (tgt := 2) hx hb dX7_bestCost_104 (by decide) ?_
                      exact ih2 (v1_2 + (1 : Int32)) (upd mlF_2 v1_2.toNatClampNeg t0_67) mfF_70 h _ _ _ hP hD hS (lv_sub hl [1, 0] rfl)
                    · replace h := h.2 c75
                      refine lv_aload_n hx hb dX7_bestCost_78 rfl (lv_at hl 0 rfl) ?_
                      refine va_get (D := (dC, dI)) (ci := 7) (v := .ref a_mf) (C := RX7) (T := TX7) (N := 18) hx hb hts (fun _ h => List.mem_cons_of_mem _ (List.mem_append_right _ h)) hown hK hP 0 rfl rfl 17 (by decide) (hts (.fieldLink RX7 47 "RentOrBuyModel" "far" "[I") (List.mem_cons_of_mem _ (List.mem_append_left _ (List.mem_of_getElem? (i := 5) rfl)))) (fun _ h9 => h9) rfl dX7_bestCost_79 ?_
                      refine lv_bipush (v := (24 : Int32)) hx hb dX7_bestCost_82 (by decide +kernel) ?_
                      refine lv_iload_n hx hb dX7_bestCost_84 rfl (lv_at hl 1 rfl) ?_
                      refine lv_imul hx hb dX7_bestCost_85 ?_
                      refine lv_iload_n hx hb dX7_bestCost_86 rfl (lv_at hl 2 rfl) ?_
                      refine lv_iadd hx hb dX7_bestCost_87 ?_
                      refine lv_aload_n hx hb dX7_bestCost_88 rfl (lv_at hl 0 rfl) ?_
                      refine lv_iload_n hx hb dX7_bestCost_89 rfl (lv_at hl 1 rfl) ?_
                      refine lv_iload_n hx hb dX7_bestCost_90 rfl (lv_at hl 2 rfl) ?_
                      have hPc := hP.sub (ws' := [(a_m, .inr (7, [.int mkd, .int mrt, .int mri, .int mca, .int mpr, .int men, .ref a_mp, .ref a_me, .int mth, .int mrq, .ref a_mq, .long mtr, .ref a_mr, .ref a_mo, .int mos, .ref a_ml, .ref a_mt, .ref a_mf])), (a_mo, .inl (kA, 96, .inl moF))]) [0, 2] rfl
                      have hDc := hD.sub (ws' := [(a_m, .inr (7, [.int mkd, .int mrt, .int mri, .int mca, .int mpr, .int men, .ref a_mp, .ref a_me, .int mth, .int mrq, .ref a_mq, .long mtr, .ref a_mr, .ref a_mo, .int mos, .ref a_ml, .ref a_mt, .ref a_mf])), (a_mo, .inl (kA, 96, .inl moF))]) [0, 2] (by decide) rfl
                      refine fr_i (wr := [(a_mq, .inl (kA, 16, .inl mqF)), (a_ml, .inl (kA, 24, .inl (upd mlF_2 v1_2.toNatClampNeg t0_67))), (a_mt, .inl (kA, 24, .inl mtF)), (a_mf, .inl (kA, 576, .inl mfF_70))]) (WN := fun (u91 : Unit) => [(a_m, .inr (7, [.int mkd, .int mrt, .int mri, .int mca, .int mpr, .int men, .ref a_mp, .ref a_me, .int mth, .int mrq, .ref a_mq, .long mtr, .ref a_mr, .ref a_mo, .int mos, .ref a_ml, .ref a_mt, .ref a_mf])), (a_mq, .inl (kA, 16, .inl mqF)), (a_mo, .inl (kA, 96, .inl moF)), (a_ml, .inl (kA, 24, .inl (upd mlF_2 v1_2.toNatClampNeg t0_67))), (a_mt, .inl (kA, 24, .inl mtF)), (a_mf, .inl (kA, 576, .inl mfF_70))]) (va_runV (As := [.int v1_2, .int v3_70]) (rest := [.int (((24 : Int32) * v1_2) + v3_70), .ref a_mf]) ⟨hx, hb, hml, hown, hts⟩ (c_X7_apart l dC dI kA a_m a_mo a_mp a_me a_mq a_mr a_ml a_mt a_mf H.size mkd mrt mri mca mpr men mth mrq mtr mos moF v1_2 v3_70 _ h) (cwV 2 hts gX7_bestCost_X7_apart rfl rfl rfl (by decide +kernel) ⟨Nat.le_of_ble_eq_true rfl, Nat.le_of_ble_eq_true rfl⟩) (prW.preV (ci := 7) (q0 := 0) hPc hDc hK hN rfl rfl) rfl rfl hl.1 rfl (lv_room (Nat.le_of_ble_eq_true rfl)) dX7_bestCost_91 ⟨Nat.le_of_ble_eq_true rfl, Nat.le_of_ble_eq_true rfl⟩) hP hD hS hA [0, 2] [1, 3, 4, 5] rfl rfl (by decide) (by decide) [4, 0, 5, 1, 2, 3] (by decide) (fun _ => rfl) (fun r91 u91 H locs h hP hD hS => ?_)
                      have hP : va_P (dC, dI) vwCl [(a_m, .inr (7, [.int mkd, .int mrt, .int mri, .int mca, .int mpr, .int men, .ref a_mp, .ref a_me, .int mth, .int mrq, .ref a_mq, .long mtr, .ref a_mr, .ref a_mo, .int mos, .ref a_ml, .ref a_mt, .ref a_mf])), (a_mq, .inl (kA, 16, .inl mqF)), (a_mo, .inl (kA, 96, .inl moF)), (a_ml, .inl (kA, 24, .inl (upd mlF_2 v1_2.toNatClampNeg t0_67))), (a_mt, .inl (kA, 24, .inl mtF)), (a_mf, .inl (kA, 576, .inl mfF_70))] H := hP
                      have hD : va_D A [(a_m, .inr (7, [.int mkd, .int mrt, .int mri, .int mca, .int mpr, .int men, .ref a_mp, .ref a_me, .int mth, .int mrq, .ref a_mq, .long mtr, .ref a_mr, .ref a_mo, .int mos, .ref a_ml, .ref a_mt, .ref a_mf])), (a_mq, .inl (kA, 16, .inl mqF)), (a_mo, .inl (kA, 96, .inl moF)), (a_ml, .inl (kA, 24, .inl (upd mlF_2 v1_2.toNatClampNeg t0_67))), (a_mt, .inl (kA, 24, .inl mtF)), (a_mf, .inl (kA, 576, .inl mfF_70))] := hD
                      obtain ⟨hi94, h⟩ := h
                      refine va_iast hx hb hK hP hD hS 5 0 rfl rfl hi94 dX7_bestCost_94 (fun H locs hP hD hS => ?_)
                      have hP : va_P (dC, dI) vwCl [(a_m, .inr (7, [.int mkd, .int mrt, .int mri, .int mca, .int mpr, .int men, .ref a_mp, .ref a_me, .int mth, .int mrq, .ref a_mq, .long mtr, .ref a_mr, .ref a_mo, .int mos, .ref a_ml, .ref a_mt, .ref a_mf])), (a_mq, .inl (kA, 16, .inl mqF)), (a_mo, .inl (kA, 96, .inl moF)), (a_ml, .inl (kA, 24, .inl (upd mlF_2 v1_2.toNatClampNeg t0_67))), (a_mt, .inl (kA, 24, .inl mtF)), (a_mf, .inl (kA, 576, .inl (upd mfF_70 (((24 : Int32) * v1_2) + v3_70).toNatClampNeg r91)))] H := hP
                      have hD : va_D A [(a_m, .inr (7, [.int mkd, .int mrt, .int mri, .int mca, .int mpr, .int men, .ref a_mp, .ref a_me, .int mth, .int mrq, .ref a_mq, .long mtr, .ref a_mr, .ref a_mo, .int mos, .ref a_ml, .ref a_mt, .ref a_mf])), (a_mq, .inl (kA, 16, .inl mqF)), (a_mo, .inl (kA, 96, .inl moF)), (a_ml, .inl (kA, 24, .inl (upd mlF_2 v1_2.toNatClampNeg t0_67))), (a_mt, .inl (kA, 24, .inl mtF)), (a_mf, .inl (kA, 576, .inl (upd mfF_70 (((24 : Int32) * v1_2) + v3_70).toNatClampNeg r91)))] := hD
                      refine lv_iinc (v := (v3_70 + (1 : Int32))) (lv' := [(3, .int (v3_70 + (1 : Int32))), (0, .ref a_m), (1, .int v1_2)]) hx hb dX7_bestCost_95 hl (k := 2) rfl (by rfl) (by decide) rfl (fun ls hl => ?_)
                      refine lv_goto (tgt := 70) hx hb dX7_bestCost_98 (by decide) ?_
                      exact ih70 (v3_70 + (1 : Int32)) (upd mfF_70 (((24 : Int32) * v1_2) + v3_70).toNatClampNeg r91) h _ _ _ hP hD hS (lv_sub hl [1, 2, 0] rfl)
                exact hL70 n70 (0 : Int32) mfF_2 h _ _ _ hP hD hS (lv_sub hl [1, 2, 0] rfl)
              refine lv_if_eq (tgt := 65) hx hb dX7_bestCost_58 (by decide) (fun c58 => ?_) (fun c58 => ?_)
              · replace h := h.1 c58
                refine lv_ldc (v := (1000000 : Int32)) hx hb hown (hts (.constant RX7 141 (1000000)) (List.mem_cons_of_mem _ (List.mem_append_left _ (List.mem_of_getElem? (i := 4) rfl)))) dX7_bestCost_65 ?_
                exact hJ67 (1000000 : Int32) h _ _ _ hP hD hS (lv_sub hl [0, 1] rfl)
              · replace h := h.2 c58
                refine lv_iconst (v := (0 : Int32)) hx hb dX7_bestCost_61 (by decide +kernel) ?_
                refine lv_goto (tgt := 67) hx hb dX7_bestCost_62 (by decide) ?_
                exact hJ67 (0 : Int32) h _ _ _ hP hD hS (lv_sub hl [0, 1] rfl)
            · replace h := h.2 c19
              refine lv_iload_n hx hb dX7_bestCost_22 rfl (lv_at hl 2 rfl) ?_
              obtain ⟨J45, hR45, h⟩ := h
              have hJ45 : ∀ (t0_45 : Int32), J45 t0_45 → ∀ (H : Heap) (locs : List Loc) (ls : Array Slot), va_P (dC, dI) vwCl [(a_m, .inr (7, [.int mkd, .int mrt, .int mri, .int mca, .int mpr, .int men, .ref a_mp, .ref a_me, .int mth, .int mrq, .ref a_mq, .long mtr, .ref a_mr, .ref a_mo, .int mos, .ref a_ml, .ref a_mt, .ref a_mf])), (a_mq, .inl (kA, 16, .inl mqF)), (a_mo, .inl (kA, 96, .inl moF)), (a_ml, .inl (kA, 24, .inl mlF_2)), (a_mt, .inl (kA, 24, .inl mtF)), (a_mf, .inl (kA, 576, .inl mfF_2))] H → va_D A [(a_m, .inr (7, [.int mkd, .int mrt, .int mri, .int mca, .int mpr, .int men, .ref a_mp, .ref a_me, .int mth, .int mrq, .ref a_mq, .long mtr, .ref a_mr, .ref a_mo, .int mos, .ref a_ml, .ref a_mt, .ref a_mf])), (a_mq, .inl (kA, 16, .inl mqF)), (a_mo, .inl (kA, 96, .inl moF)), (a_ml, .inl (kA, 24, .inl mlF_2)), (a_mt, .inl (kA, 24, .inl mtF)), (a_mf, .inl (kA, 576, .inl mfF_2))] → va_S A s.heap H locs → lv_has ls 5 [(0, .ref a_m), (1, .int v1_2), (3, .int v3_14)] → W p l e (headSpec wsX7_bestCost rmX7_bestCost).room s m args below meth c H locs 0 0 Q (F0 m 45 ls [.int t0_45]) := by
                intro t0_45 h H locs ls hP hD hS hl
                replace h := hR45 t0_45 h
                refine lv_istore_n (lv' := [(2, .int t0_45), (0, .ref a_m), (1, .int v1_2), (3, .int v3_14)]) hx hb dX7_bestCost_45 rfl hl (by decide) rfl (fun ls hl => ?_)
                refine lv_iinc (v := (v3_14 + (1 : Int32))) (lv' := [(3, .int (v3_14 + (1 : Int32))), (2, .int t0_45), (0, .ref a_m), (1, .int v1_2)]) hx hb dX7_bestCost_46 hl (k := 3) rfl (by rfl) (by decide) rfl (fun ls hl => ?_)
                refine lv_goto (tgt := 14) hx hb dX7_bestCost_49 (by decide) ?_
                exact ih14 t0_45 (v3_14 + (1 : Int32)) h _ _ _ hP hD hS (lv_sub hl [2, 3, 1, 0] rfl)
              obtain ⟨J44, hR44, h⟩ := h
              have hJ44 : J44 → ∀ (H : Heap) (locs : List Loc) (ls : Array Slot), va_P (dC, dI) vwCl [(a_m, .inr (7, [.int mkd, .int mrt, .int mri, .int mca, .int mpr, .int men, .ref a_mp, .ref a_me, .int mth, .int mrq, .ref a_mq, .long mtr, .ref a_mr, .ref a_mo, .int mos, .ref a_ml, .ref a_mt, .ref a_mf])), (a_mq, .inl (kA, 16, .inl mqF)), (a_mo, .inl (kA, 96, .inl moF)), (a_ml, .inl (kA, 24, .inl mlF_2)), (a_mt, .inl (kA, 24, .inl mtF)), (a_mf, .inl (kA, 576, .inl mfF_2))] H → va_D A [(a_m, .inr (7, [.int mkd, .int mrt, .int mri, .int mca, .int mpr, .int men, .ref a_mp, .ref a_me, .int mth, .int mrq, .ref a_mq, .long mtr, .ref a_mr, .ref a_mo, .int mos, .ref a_ml, .ref a_mt, .ref a_mf])), (a_mq, .inl (kA, 16, .inl mqF)), (a_mo, .inl (kA, 96, .inl moF)), (a_ml, .inl (kA, 24, .inl mlF_2)), (a_mt, .inl (kA, 24, .inl mtF)), (a_mf, .inl (kA, 576, .inl mfF_2))] → va_S A s.heap H locs → lv_has ls 5 [(0, .ref a_m), (1, .int v1_2), (3, .int v3_14)] → W p l e (headSpec wsX7_bestCost rmX7_bestCost).room s m args below meth c H locs 0 0 Q (F0 m 44 ls []) := by
                intro  h H locs ls hP hD hS hl
                replace h := hR44  h
                refine lv_iconst (v := (0 : Int32)) hx hb dX7_bestCost_44 (by decide +kernel) ?_
                exact hJ45 (0 : Int32) h _ _ _ hP hD hS (lv_sub hl [0, 1, 2] rfl)
              refine lv_if_eq (tgt := 44) hx hb dX7_bestCost_23 (by decide) (fun c23 => ?_) (fun c23 => ?_)
              · replace h := h.1 c23
                exact hJ44 h _ _ _ hP hD hS (lv_sub hl [0, 1, 3] rfl)
              · replace h := h.2 c23
                refine lv_aload_n hx hb dX7_bestCost_26 rfl (lv_at hl 0 rfl) ?_
                refine va_get (D := (dC, dI)) (ci := 7) (v := .ref a_mo) (C := RX7) (T := TX7) (N := 18) hx hb hts (fun _ h => List.mem_cons_of_mem _ (List.mem_append_right _ h)) hown hK hP 0 rfl rfl 13 (by decide) (hts (.fieldLink RX7 38 "RentOrBuyModel" "order" "[I") (List.mem_cons_of_mem _ (List.mem_append_left _ (List.mem_of_getElem? (i := 2) rfl)))) (fun _ h9 => h9) rfl dX7_bestCost_27 ?_
                refine lv_iconst (v := (4 : Int32)) hx hb dX7_bestCost_30 (by decide +kernel) ?_
                refine lv_iload_n hx hb dX7_bestCost_31 rfl (lv_at hl 1 rfl) ?_
                refine lv_imul hx hb dX7_bestCost_32 ?_
                refine lv_iload_n hx hb dX7_bestCost_33 rfl (lv_at hl 3 rfl) ?_
                refine lv_iadd hx hb dX7_bestCost_34 ?_
                obtain ⟨hi35, h⟩ := h
                refine va_iald hx hb hK hP 2 0 rfl rfl hi35 dX7_bestCost_35 ?_
                refine lv_iload_n hx hb dX7_bestCost_36 rfl (lv_at hl 3 rfl) ?_
                refine lv_icmp_ne (tgt := 44) hx hb dX7_bestCost_37 (by decide) (fun c37 => ?_) (fun c37 => ?_)
                · replace h := h.1 c37
                  exact hJ44 h _ _ _ hP hD hS (lv_sub hl [0, 1, 3] rfl)
                · replace h := h.2 c37
                  refine lv_iconst (v := (1 : Int32)) hx hb dX7_bestCost_40 (by decide +kernel) ?_
                  refine lv_goto (tgt := 45) hx hb dX7_bestCost_41 (by decide) ?_
                  exact hJ45 (1 : Int32) h _ _ _ hP hD hS (lv_sub hl [0, 1, 3] rfl)
        exact hL14 n14 (1 : Int32) (0 : Int32) h _ _ _ hP hD hS (lv_sub hl [2, 3, 1, 0] rfl)
  exact hL2 n2 (0 : Int32) mlF mfF h _ _ _ hP hD hS (lv_sub hl [1, 0] rfl)

/-- RentOrBuyModel.rentOf -/
def rmX7_rentOf : Room := { frames := 0, cells := 0, slots := 0, locals := 0 }
set_option maxHeartbeats 4000000 in
set_option maxRecDepth 100000 in
theorem c_X7_rentOf (l : Launch) (dC : Nat → ClassId) (dI : Nat → Nat → Nat) (kA : ClassId) (a_m a_mp a_me a_mq a_mr a_mo a_ml a_mt a_mf : Nat) (sz : Nat) (mkd : Int32) (mrt : Int32) (mri : Int32) (mca : Int32) (mpr : Int32) (men : Int32) (mth : Int32) (mrq : Int32) (mtr : Int64) (mos : Int32) (p1 : Int32) (K : Int32 → Prop) (hg : g_X7_rentOf mkd mrt mri mca mpr men mth mrq mtr mos p1 K) : Met l yX7_rentOf wsX7_rentOf rmX7_rentOf (va_Pc [.ref a_m, .int p1] (prW (dC, dI) kA sz [(a_m, .inr (7, [.int mkd, .int mrt, .int mri, .int mca, .int mpr, .int men, .ref a_mp, .ref a_me, .int mth, .int mrq, .ref a_mq, .long mtr, .ref a_mr, .ref a_mo, .int mos, .ref a_ml, .ref a_mt, .ref a_mf]))])) (va_Qi (fun (r : Int32) (u : Unit) => K r) (poW (dC, dI) (va_A [(a_m, .inr (7, [.int mkd, .int mrt, .int mri, .int mca, .int mpr, .int men, .ref a_mp, .ref a_me, .int mth, .int mrq, .ref a_mq, .long mtr, .ref a_mr, .ref a_mo, .int mos, .ref a_ml, .ref a_mt, .ref a_mf]))] sz) (fun (u : Unit) => [(a_m, .inr (7, [.int mkd, .int mrt, .int mri, .int mca, .int mpr, .int men, .ref a_mp, .ref a_me, .int mth, .int mrq, .ref a_mq, .long mtr, .ref a_mr, .ref a_mo, .int mos, .ref a_ml, .ref a_mt, .ref a_mf]))])) (va_A [(a_m, .inr (7, [.int mkd, .int mrt, .int mri, .int mca, .int mpr, .int men, .ref a_mp, .ref a_me, .int mth, .int mrq, .ref a_mq, .long mtr, .ref a_mr, .ref a_mo, .int mos, .ref a_ml, .ref a_mt, .ref a_mf]))] sz)) 0 0 (va_A [(a_m, .inr (7, [.int mkd, .int mrt, .int mri, .int mca, .int mpr, .int men, .ref a_mp, .ref a_me, .int mth, .int mrq, .ref a_mq, .long mtr, .ref a_mr, .ref a_mo, .int mos, .ref a_ml, .ref a_mt, .ref a_mf]))] sz) := by
  refine Met.ofW (cc := cX7_rentOf) (maxL := 3) (ret := (some .int)) (by decide) rfl ?_
  intro p e s m args below meth c s₁ B hml hv
  obtain ⟨hargs, hsz, hP, hK, hD0, hN⟩ := hv
  have hx := B.exec
  have hb := B.bytes
  have hr := B.returns
  have hts := atoms_spec (ws := wsX7_rentOf) B.pre
  have hown : s.vm.findClass RX7 = some m.cls := findClass_of_methodNamed B.named
  have hlocks := B.notSynchronized
  subst hsz
  have hD := hD0.self (sz := s.heap.size)
  generalize hAe : va_A [(a_m, .inr (7, [.int mkd, .int mrt, .int mri, .int mca, .int mpr, .int men, .ref a_mp, .ref a_me, .int mth, .int mrq, .ref a_mq, .long mtr, .ref a_mr, .ref a_mo, .int mos, .ref a_ml, .ref a_mt, .ref a_mf]))] s.heap.size = A at hD ⊢
  have hA : ∀ q : Nat, s.heap.size ≤ q → A q := fun q h => by rw [← hAe]; exact Or.inr h
  have hS : va_S A s.heap s.heap [] := va_S.rf
  obtain ⟨Q, hQ⟩ : ∃ Q : State → Prop, Q = MQ below (va_Qi (fun (r : Int32) (u : Unit) => K r) (poW (dC, dI) A (fun (u : Unit) => [(a_m, .inr (7, [.int mkd, .int mrt, .int mri, .int mca, .int mpr, .int men, .ref a_mp, .ref a_me, .int mth, .int mrq, .ref a_mq, .long mtr, .ref a_mr, .ref a_mo, .int mos, .ref a_ml, .ref a_mt, .ref a_mf]))])) A) args s 0 0 A := ⟨_, rfl⟩
  rw [← hQ]
  have hP : va_P (dC, dI) vwCl [(a_m, .inr (7, [.int mkd, .int mrt, .int mri, .int mca, .int mpr, .int men, .ref a_mp, .ref a_me, .int mth, .int mrq, .ref a_mq, .long mtr, .ref a_mr, .ref a_mo, .int mos, .ref a_ml, .ref a_mt, .ref a_mf]))] s.heap := hP
  refine en_ok hargs (Nat.le_of_ble_eq_true rfl) (fun ls hl => ?_)
  have hl : lv_has ls 3 [(0, .ref a_m), (1, .int p1)] := hl
  have h := hg
  unfold g_X7_rentOf at h
  refine lv_aload_n hx hb dX7_rentOf_0 rfl (lv_at hl 0 rfl) ?_
  refine va_get (D := (dC, dI)) (ci := 7) (v := .int mrt) (C := RX7) (T := TX7) (N := 18) hx hb hts (fun _ h => List.mem_cons_of_mem _ (List.mem_append_right _ h)) hown hK hP 0 rfl rfl 1 (by decide) (hts (.fieldLink RX7 7 "RentOrBuyModel" "rent" "I") (List.mem_cons_of_mem _ (List.mem_append_left _ (List.mem_of_getElem? (i := 0) rfl)))) (fun _ h9 => h9) rfl dX7_rentOf_1 ?_
  refine lv_aload_n hx hb dX7_rentOf_4 rfl (lv_at hl 0 rfl) ?_
  refine va_get (D := (dC, dI)) (ci := 7) (v := .int mkd) (C := RX7) (T := TX7) (N := 18) hx hb hts (fun _ h => List.mem_cons_of_mem _ (List.mem_append_right _ h)) hown hK hP 0 rfl rfl 0 (by decide) (hts (.fieldLink RX7 53 "RentOrBuyModel" "kind" "I") (List.mem_cons_of_mem _ (List.mem_append_left _ (List.mem_of_getElem? (i := 1) rfl)))) (fun _ h9 => h9) rfl dX7_rentOf_5 ?_
  obtain ⟨J23, hR23, h⟩ := h
  have hJ23 : ∀ (t0_23 : Int32), J23 t0_23 → ∀ (H : Heap) (locs : List Loc) (ls : Array Slot), va_P (dC, dI) vwCl [(a_m, .inr (7, [.int mkd, .int mrt, .int mri, .int mca, .int mpr, .int men, .ref a_mp, .ref a_me, .int mth, .int mrq, .ref a_mq, .long mtr, .ref a_mr, .ref a_mo, .int mos, .ref a_ml, .ref a_mt, .ref a_mf]))] H → va_D A [(a_m, .inr (7, [.int mkd, .int mrt, .int mri, .int mca, .int mpr, .int men, .ref a_mp, .ref a_me, .int mth, .int mrq, .ref a_mq, .long mtr, .ref a_mr, .ref a_mo, .int mos, .ref a_ml, .ref a_mt, .ref a_mf]))] → va_S A s.heap H locs → lv_has ls 3 [(0, .ref a_m)] → W p l e (headSpec wsX7_rentOf rmX7_rentOf).room s m args below meth c H locs 0 0 Q (F0 m 23 ls [.int t0_23, .int mrt]) := by
    intro t0_23 h H locs ls hP hD hS hl
    replace h := hR23 t0_23 h
    refine lv_iadd hx hb dX7_rentOf_23 ?_
    refine lv_istore_n (lv' := [(2, .int (mrt + t0_23)), (0, .ref a_m)]) hx hb dX7_rentOf_24 rfl hl (by decide) rfl (fun ls hl => ?_)
    refine lv_aload_n hx hb dX7_rentOf_25 rfl (lv_at hl 1 rfl) ?_
    refine va_get (D := (dC, dI)) (ci := 7) (v := .int mkd) (C := RX7) (T := TX7) (N := 18) hx hb hts (fun _ h => List.mem_cons_of_mem _ (List.mem_append_right _ h)) hown hK hP 0 rfl rfl 0 (by decide) (hts (.fieldLink RX7 53 "RentOrBuyModel" "kind" "I") (List.mem_cons_of_mem _ (List.mem_append_left _ (List.mem_of_getElem? (i := 1) rfl)))) (fun _ h9 => h9) rfl dX7_rentOf_26 ?_
    refine lv_iconst (v := (2 : Int32)) hx hb dX7_rentOf_29 (by decide +kernel) ?_
    refine lv_icmp_ne (tgt := 48) hx hb dX7_rentOf_30 (by decide) (fun c30 => ?_) (fun c30 => ?_)
    · replace h := h.1 c30
      refine lv_iload_n hx hb dX7_rentOf_48 rfl (lv_at hl 0 rfl) ?_
      rw [hQ]
      exact rt_i () hx hb hr hlocks h hP hD hS dX7_rentOf_49
    · replace h := h.2 c30
      refine lv_iload_n hx hb dX7_rentOf_33 rfl (lv_at hl 0 rfl) ?_
      refine lv_aload_n hx hb dX7_rentOf_34 rfl (lv_at hl 1 rfl) ?_
      refine va_get (D := (dC, dI)) (ci := 7) (v := .int mca) (C := RX7) (T := TX7) (N := 18) hx hb hts (fun _ h => List.mem_cons_of_mem _ (List.mem_append_right _ h)) hown hK hP 0 rfl rfl 3 (by decide) (hts (.fieldLink RX7 13 "RentOrBuyModel" "cap" "I") (List.mem_cons_of_mem _ (List.mem_append_left _ (List.mem_of_getElem? (i := 3) rfl)))) (fun _ h9 => h9) rfl dX7_rentOf_35 ?_
      refine lv_icmp_le (tgt := 48) hx hb dX7_rentOf_38 (by decide) (fun c38 => ?_) (fun c38 => ?_)
      · replace h := h.1 c38
        refine lv_iload_n hx hb dX7_rentOf_48 rfl (lv_at hl 0 rfl) ?_
        rw [hQ]
        exact rt_i () hx hb hr hlocks h hP hD hS dX7_rentOf_49
      · replace h := h.2 c38
        refine lv_aload_n hx hb dX7_rentOf_41 rfl (lv_at hl 1 rfl) ?_
        refine va_get (D := (dC, dI)) (ci := 7) (v := .int mca) (C := RX7) (T := TX7) (N := 18) hx hb hts (fun _ h => List.mem_cons_of_mem _ (List.mem_append_right _ h)) hown hK hP 0 rfl rfl 3 (by decide) (hts (.fieldLink RX7 13 "RentOrBuyModel" "cap" "I") (List.mem_cons_of_mem _ (List.mem_append_left _ (List.mem_of_getElem? (i := 3) rfl)))) (fun _ h9 => h9) rfl dX7_rentOf_42 ?_
        refine lv_goto (tgt := 49) hx hb dX7_rentOf_45 (by decide) ?_
        rw [hQ]
        exact rt_i () hx hb hr hlocks h hP hD hS dX7_rentOf_49
  refine lv_if_le (tgt := 22) hx hb dX7_rentOf_8 (by decide) (fun c8 => ?_) (fun c8 => ?_)
  · replace h := h.1 c8
    refine lv_iconst (v := (0 : Int32)) hx hb dX7_rentOf_22 (by decide +kernel) ?_
    exact hJ23 (0 : Int32) h _ _ _ hP hD hS (lv_sub hl [0] rfl)
  · replace h := h.2 c8
    refine lv_aload_n hx hb dX7_rentOf_11 rfl (lv_at hl 0 rfl) ?_
    refine va_get (D := (dC, dI)) (ci := 7) (v := .int mri) (C := RX7) (T := TX7) (N := 18) hx hb hts (fun _ h => List.mem_cons_of_mem _ (List.mem_append_right _ h)) hown hK hP 0 rfl rfl 2 (by decide) (hts (.fieldLink RX7 56 "RentOrBuyModel" "rise" "I") (List.mem_cons_of_mem _ (List.mem_append_left _ (List.mem_of_getElem? (i := 2) rfl)))) (fun _ h9 => h9) rfl dX7_rentOf_12 ?_
    refine lv_iload_n hx hb dX7_rentOf_15 rfl (lv_at hl 1 rfl) ?_
    refine lv_iconst (v := (1 : Int32)) hx hb dX7_rentOf_16 (by decide +kernel) ?_
    refine lv_isub hx hb dX7_rentOf_17 ?_
    refine lv_imul hx hb dX7_rentOf_18 ?_
    refine lv_goto (tgt := 23) hx hb dX7_rentOf_19 (by decide) ?_
    exact hJ23 (mri * (p1 - (1 : Int32))) h _ _ _ hP hD hS (lv_sub hl [0] rfl)

/-- RentOrBuyModel.rentsTo -/
def rmX7_rentsTo : Room := { frames := 1, cells := 0, slots := 0, locals := 22 }
set_option maxHeartbeats 4000000 in
set_option maxRecDepth 100000 in
theorem c_X7_rentsTo (l : Launch) (dC : Nat → ClassId) (dI : Nat → Nat → Nat) (kA : ClassId) (a_m a_mp a_me a_mq a_mr a_mo a_ml a_mt a_mf : Nat) (sz : Nat) (mkd : Int32) (mrt : Int32) (mri : Int32) (mca : Int32) (mpr : Int32) (men : Int32) (mth : Int32) (mrq : Int32) (mtr : Int64) (mos : Int32) (p1 : Int32) (K : Int32 → Prop) (hg : g_X7_rentsTo mkd mrt mri mca mpr men mth mrq mtr mos p1 K) : Met l yX7_rentsTo wsX7_rentsTo rmX7_rentsTo (va_Pc [.ref a_m, .int p1] (prW (dC, dI) kA sz [(a_m, .inr (7, [.int mkd, .int mrt, .int mri, .int mca, .int mpr, .int men, .ref a_mp, .ref a_me, .int mth, .int mrq, .ref a_mq, .long mtr, .ref a_mr, .ref a_mo, .int mos, .ref a_ml, .ref a_mt, .ref a_mf]))])) (va_Qi (fun (r : Int32) (u : Unit) => K r) (poW (dC, dI) (va_A [(a_m, .inr (7, [.int mkd, .int mrt, .int mri, .int mca, .int mpr, .int men, .ref a_mp, .ref a_me, .int mth, .int mrq, .ref a_mq, .long mtr, .ref a_mr, .ref a_mo, .int mos, .ref a_ml, .ref a_mt, .ref a_mf]))] sz) (fun (u : Unit) => [(a_m, .inr (7, [.int mkd, .int mrt, .int mri, .int mca, .int mpr, .int men, .ref a_mp, .ref a_me, .int mth, .int mrq, .ref a_mq, .long mtr, .ref a_mr, .ref a_mo, .int mos, .ref a_ml, .ref a_mt, .ref a_mf]))])) (va_A [(a_m, .inr (7, [.int mkd, .int mrt, .int mri, .int mca, .int mpr, .int men, .ref a_mp, .ref a_me, .int mth, .int mrq, .ref a_mq, .long mtr, .ref a_mr, .ref a_mo, .int mos, .ref a_ml, .ref a_mt, .ref a_mf]))] sz)) 0 0 (va_A [(a_m, .inr (7, [.int mkd, .int mrt, .int mri, .int mca, .int mpr, .int men, .ref a_mp, .ref a_me, .int mth, .int mrq, .ref a_mq, .long mtr, .ref a_mr, .ref a_mo, .int mos, .ref a_ml, .ref a_mt, .ref a_mf]))] sz) := by
  refine Met.ofW (cc := cX7_rentsTo) (maxL := 4) (ret := (some .int)) (by decide) rfl ?_
  intro p e s m args below meth c s₁ B hml hv
  obtain ⟨hargs, hsz, hP, hK, hD0, hN⟩ := hv
  have hx := B.exec
  have hb := B.bytes
  have hr := B.returns
  have hts := atoms_spec (ws := wsX7_rentsTo) B.pre
  have hown : s.vm.findClass RX7 = some m.cls := findClass_of_methodNamed B.named
  have hlocks := B.notSynchronized
  subst hsz
  have hD := hD0.self (sz := s.heap.size)
  generalize hAe : va_A [(a_m, .inr (7, [.int mkd, .int mrt, .int mri, .int mca, .int mpr, .int men, .ref a_mp, .ref a_me, .int mth, .int mrq, .ref a_mq, .long mtr, .ref a_mr, .ref a_mo, .int mos, .ref a_ml, .ref a_mt, .ref a_mf]))] s.heap.size = A at hD ⊢
  have hA : ∀ q : Nat, s.heap.size ≤ q → A q := fun q h => by rw [← hAe]; exact Or.inr h
  have hS : va_S A s.heap s.heap [] := va_S.rf
  obtain ⟨Q, hQ⟩ : ∃ Q : State → Prop, Q = MQ below (va_Qi (fun (r : Int32) (u : Unit) => K r) (poW (dC, dI) A (fun (u : Unit) => [(a_m, .inr (7, [.int mkd, .int mrt, .int mri, .int mca, .int mpr, .int men, .ref a_mp, .ref a_me, .int mth, .int mrq, .ref a_mq, .long mtr, .ref a_mr, .ref a_mo, .int mos, .ref a_ml, .ref a_mt, .ref a_mf]))])) A) args s 0 0 A := ⟨_, rfl⟩
  rw [← hQ]
  have hP : va_P (dC, dI) vwCl [(a_m, .inr (7, [.int mkd, .int mrt, .int mri, .int mca, .int mpr, .int men, .ref a_mp, .ref a_me, .int mth, .int mrq, .ref a_mq, .long mtr, .ref a_mr, .ref a_mo, .int mos, .ref a_ml, .ref a_mt, .ref a_mf]))] s.heap := hP
  refine en_ok hargs (Nat.le_of_ble_eq_true rfl) (fun ls hl => ?_)
  have hl : lv_has ls 4 [(0, .ref a_m), (1, .int p1)] := hl
  have h := hg
  unfold g_X7_rentsTo at h
  refine lv_iconst (v := (0 : Int32)) hx hb dX7_rentsTo_0 (by decide +kernel) ?_
  refine lv_istore_n (lv' := [(2, .int (0 : Int32)), (0, .ref a_m), (1, .int p1)]) hx hb dX7_rentsTo_1 rfl hl (by decide) rfl (fun ls hl => ?_)
  refine lv_iconst (v := (1 : Int32)) hx hb dX7_rentsTo_2 (by decide +kernel) ?_
  refine lv_istore_n (lv' := [(3, .int (1 : Int32)), (2, .int (0 : Int32)), (0, .ref a_m), (1, .int p1)]) hx hb dX7_rentsTo_3 rfl hl (by decide) rfl (fun ls hl => ?_)
  obtain ⟨J4, ⟨n4, h⟩, hz4, hs4⟩ := h
  have hL4 : ∀ (n4 : Nat) (v2_4 : Int32) (v3_4 : Int32), J4 n4 v2_4 v3_4 → ∀ (H : Heap) (locs : List Loc) (ls : Array Slot), va_P (dC, dI) vwCl [(a_m, .inr (7, [.int mkd, .int mrt, .int mri, .int mca, .int mpr, .int men, .ref a_mp, .ref a_me, .int mth, .int mrq, .ref a_mq, .long mtr, .ref a_mr, .ref a_mo, .int mos, .ref a_ml, .ref a_mt, .ref a_mf]))] H → va_D A [(a_m, .inr (7, [.int mkd, .int mrt, .int mri, .int mca, .int mpr, .int men, .ref a_mp, .ref a_me, .int mth, .int mrq, .ref a_mq, .long mtr, .ref a_mr, .ref a_mo, .int mos, .ref a_ml, .ref a_mt, .ref a_mf]))] → va_S A s.heap H locs → lv_has ls 4 [(0, .ref a_m), (1, .int p1), (2, .int v2_4), (3, .int v3_4)] → W p l e (headSpec wsX7_rentsTo rmX7_rentsTo).room s m args below meth c H locs 0 0 Q (F0 m 4 ls []) := by
    intro n4
    induction n4 with
    | zero => intro v2_4 v3_4 h; exact absurd h (hz4 v2_4 v3_4)
    | succ n4 ih4 =>
      intro v2_4 v3_4 h H locs ls hP hD hS hl
      replace h := hs4 n4 v2_4 v3_4 h
      refine lv_iload_n hx hb dX7_rentsTo_4 rfl (lv_at hl 3 rfl) ?_
      refine lv_iload_n hx hb dX7_rentsTo_5 rfl (lv_at hl 1 rfl) ?_
      refine lv_icmp_gt (tgt := 23) hx hb dX7_rentsTo_6 (by decide) (fun c6 => ?_) (fun c6 => ?_)
      · replace h := h.1 c6
        refine lv_iload_n hx hb dX7_rentsTo_23 rfl (lv_at hl 2 rfl) ?_
        rw [hQ]
        exact rt_i () hx hb hr hlocks h hP hD hS dX7_rentsTo_24
      · replace h := h.2 c6
        refine lv_iload_n hx hb dX7_rentsTo_9 rfl (lv_at hl 2 rfl) ?_
        refine lv_aload_n hx hb dX7_rentsTo_10 rfl (lv_at hl 0 rfl) ?_
        refine lv_iload_n hx hb dX7_rentsTo_11 rfl (lv_at hl 3 rfl) ?_
        have hPc := hP.sub (ws' := [(a_m, .inr (7, [.int mkd, .int mrt, .int mri, .int mca, .int mpr, .int men, .ref a_mp, .ref a_me, .int mth, .int mrq, .ref a_mq, .long mtr, .ref a_mr, .ref a_mo, .int mos, .ref a_ml, .ref a_mt, .ref a_mf]))]) [0] rfl
        have hDc := hD.sub (ws' := [(a_m, .inr (7, [.int mkd, .int mrt, .int mri, .int mca, .int mpr, .int men, .ref a_mp, .ref a_me, .int mth, .int mrq, .ref a_mq, .long mtr, .ref a_mr, .ref a_mo, .int mos, .ref a_ml, .ref a_mt, .ref a_mf]))]) [0] (by decide) rfl
        refine fr_i (wr := []) (WN := fun (u12 : Unit) => [(a_m, .inr (7, [.int mkd, .int mrt, .int mri, .int mca, .int mpr, .int men, .ref a_mp, .ref a_me, .int mth, .int mrq, .ref a_mq, .long mtr, .ref a_mr, .ref a_mo, .int mos, .ref a_ml, .ref a_mt, .ref a_mf]))]) (va_runV (As := [.int v3_4]) (rest := [.int v2_4]) ⟨hx, hb, hml, hown, hts⟩ (c_X7_rentOf l dC dI kA a_m a_mp a_me a_mq a_mr a_mo a_ml a_mt a_mf H.size mkd mrt mri mca mpr men mth mrq mtr mos v3_4 _ h) (cwV 1 hts gX7_rentsTo_X7_rentOf rfl rfl rfl (by decide +kernel) ⟨Nat.le_of_ble_eq_true rfl, Nat.le_of_ble_eq_true rfl⟩) (prW.preV (ci := 7) (q0 := 0) hPc hDc hK hN rfl rfl) rfl rfl hl.1 rfl (lv_room (Nat.le_of_ble_eq_true rfl)) dX7_rentsTo_12 ⟨Nat.le_of_ble_eq_true rfl, Nat.le_of_ble_eq_true rfl⟩) hP hD hS hA [0] [] rfl rfl (by decide) (by decide) [0] (by decide) (fun _ => rfl) (fun r12 u12 H locs h hP hD hS => ?_)
        have hP : va_P (dC, dI) vwCl [(a_m, .inr (7, [.int mkd, .int mrt, .int mri, .int mca, .int mpr, .int men, .ref a_mp, .ref a_me, .int mth, .int mrq, .ref a_mq, .long mtr, .ref a_mr, .ref a_mo, .int mos, .ref a_ml, .ref a_mt, .ref a_mf]))] H := hP
        have hD : va_D A [(a_m, .inr (7, [.int mkd, .int mrt, .int mri, .int mca, .int mpr, .int men, .ref a_mp, .ref a_me, .int mth, .int mrq, .ref a_mq, .long mtr, .ref a_mr, .ref a_mo, .int mos, .ref a_ml, .ref a_mt, .ref a_mf]))] := hD
        refine lv_iadd hx hb dX7_rentsTo_15 ?_
        refine lv_istore_n (lv' := [(2, .int (v2_4 + r12)), (0, .ref a_m), (1, .int p1), (3, .int v3_4)]) hx hb dX7_rentsTo_16 rfl hl (by decide) rfl (fun ls hl => ?_)
        refine lv_iinc (v := (v3_4 + (1 : Int32))) (lv' := [(3, .int (v3_4 + (1 : Int32))), (2, .int (v2_4 + r12)), (0, .ref a_m), (1, .int p1)]) hx hb dX7_rentsTo_17 hl (k := 3) rfl (by rfl) (by decide) rfl (fun ls hl => ?_)
        refine lv_goto (tgt := 4) hx hb dX7_rentsTo_20 (by decide) ?_
        exact ih4 (v2_4 + r12) (v3_4 + (1 : Int32)) h _ _ _ hP hD hS (lv_sub hl [2, 3, 1, 0] rfl)
  exact hL4 n4 (0 : Int32) (1 : Int32) h _ _ _ hP hD hS (lv_sub hl [2, 3, 1, 0] rfl)

/-- RentOrBuyModel.costOf -/
def rmX7_costOf : Room := { frames := 2, cells := 0, slots := 0, locals := 45 }
set_option maxHeartbeats 4000000 in
set_option maxRecDepth 100000 in
theorem c_X7_costOf (l : Launch) (dC : Nat → ClassId) (dI : Nat → Nat → Nat) (kA : ClassId) (a_m a_mp a_me a_mq a_mr a_mo a_ml a_mt a_mf : Nat) (sz : Nat) (mkd : Int32) (mrt : Int32) (mri : Int32) (mca : Int32) (mpr : Int32) (men : Int32) (mth : Int32) (mrq : Int32) (mtr : Int64) (mos : Int32) (p1 : Int32) (p2 : Int32) (K : Int32 → Prop) (hg : g_X7_costOf mkd mrt mri mca mpr men mth mrq mtr mos p1 p2 K) : Met l yX7_costOf wsX7_costOf rmX7_costOf (va_Pc [.ref a_m, .int p1, .int p2] (prW (dC, dI) kA sz [(a_m, .inr (7, [.int mkd, .int mrt, .int mri, .int mca, .int mpr, .int men, .ref a_mp, .ref a_me, .int mth, .int mrq, .ref a_mq, .long mtr, .ref a_mr, .ref a_mo, .int mos, .ref a_ml, .ref a_mt, .ref a_mf]))])) (va_Qi (fun (r : Int32) (u : Unit) => K r) (poW (dC, dI) (va_A [(a_m, .inr (7, [.int mkd, .int mrt, .int mri, .int mca, .int mpr, .int men, .ref a_mp, .ref a_me, .int mth, .int mrq, .ref a_mq, .long mtr, .ref a_mr, .ref a_mo, .int mos, .ref a_ml, .ref a_mt, .ref a_mf]))] sz) (fun (u : Unit) => [(a_m, .inr (7, [.int mkd, .int mrt, .int mri, .int mca, .int mpr, .int men, .ref a_mp, .ref a_me, .int mth, .int mrq, .ref a_mq, .long mtr, .ref a_mr, .ref a_mo, .int mos, .ref a_ml, .ref a_mt, .ref a_mf]))])) (va_A [(a_m, .inr (7, [.int mkd, .int mrt, .int mri, .int mca, .int mpr, .int men, .ref a_mp, .ref a_me, .int mth, .int mrq, .ref a_mq, .long mtr, .ref a_mr, .ref a_mo, .int mos, .ref a_ml, .ref a_mt, .ref a_mf]))] sz)) 0 0 (va_A [(a_m, .inr (7, [.int mkd, .int mrt, .int mri, .int mca, .int mpr, .int men, .ref a_mp, .ref a_me, .int mth, .int mrq, .ref a_mq, .long mtr, .ref a_mr, .ref a_mo, .int mos, .ref a_ml, .ref a_mt, .ref a_mf]))] sz) := by
  refine Met.ofW (cc := cX7_costOf) (maxL := 3) (ret := (some .int)) (by decide) rfl ?_
  intro p e s m args below meth c s₁ B hml hv
  obtain ⟨hargs, hsz, hP, hK, hD0, hN⟩ := hv
  have hx := B.exec
  have hb := B.bytes
  have hr := B.returns
  have hts := atoms_spec (ws := wsX7_costOf) B.pre
  have hown : s.vm.findClass RX7 = some m.cls := findClass_of_methodNamed B.named
  have hlocks := B.notSynchronized
  subst hsz
  have hD := hD0.self (sz := s.heap.size)
  generalize hAe : va_A [(a_m, .inr (7, [.int mkd, .int mrt, .int mri, .int mca, .int mpr, .int men, .ref a_mp, .ref a_me, .int mth, .int mrq, .ref a_mq, .long mtr, .ref a_mr, .ref a_mo, .int mos, .ref a_ml, .ref a_mt, .ref a_mf]))] s.heap.size = A at hD ⊢
  have hA : ∀ q : Nat, s.heap.size ≤ q → A q := fun q h => by rw [← hAe]; exact Or.inr h
  have hS : va_S A s.heap s.heap [] := va_S.rf
  obtain ⟨Q, hQ⟩ : ∃ Q : State → Prop, Q = MQ below (va_Qi (fun (r : Int32) (u : Unit) => K r) (poW (dC, dI) A (fun (u : Unit) => [(a_m, .inr (7, [.int mkd, .int mrt, .int mri, .int mca, .int mpr, .int men, .ref a_mp, .ref a_me, .int mth, .int mrq, .ref a_mq, .long mtr, .ref a_mr, .ref a_mo, .int mos, .ref a_ml, .ref a_mt, .ref a_mf]))])) A) args s 0 0 A := ⟨_, rfl⟩
  rw [← hQ]
  have hP : va_P (dC, dI) vwCl [(a_m, .inr (7, [.int mkd, .int mrt, .int mri, .int mca, .int mpr, .int men, .ref a_mp, .ref a_me, .int mth, .int mrq, .ref a_mq, .long mtr, .ref a_mr, .ref a_mo, .int mos, .ref a_ml, .ref a_mt, .ref a_mf]))] s.heap := hP
  refine en_ok hargs (Nat.le_of_ble_eq_true rfl) (fun ls hl => ?_)
  have hl : lv_has ls 3 [(0, .ref a_m), (1, .int p1), (2, .int p2)] := hl
  have h := hg
  unfold g_X7_costOf at h
  refine lv_iload_n hx hb dX7_costOf_0 rfl (lv_at hl 1 rfl) ?_
  refine lv_iload_n hx hb dX7_costOf_1 rfl (lv_at hl 2 rfl) ?_
  refine lv_icmp_gt (tgt := 20) hx hb dX7_costOf_2 (by decide) (fun c2 => ?_) (fun c2 => ?_)
  · replace h := h.1 c2
    refine lv_aload_n hx hb dX7_costOf_20 rfl (lv_at hl 0 rfl) ?_
    refine lv_iload_n hx hb dX7_costOf_21 rfl (lv_at hl 2 rfl) ?_
    have hPc := hP.sub (ws' := [(a_m, .inr (7, [.int mkd, .int mrt, .int mri, .int mca, .int mpr, .int men, .ref a_mp, .ref a_me, .int mth, .int mrq, .ref a_mq, .long mtr, .ref a_mr, .ref a_mo, .int mos, .ref a_ml, .ref a_mt, .ref a_mf]))]) [0] rfl
    have hDc := hD.sub (ws' := [(a_m, .inr (7, [.int mkd, .int mrt, .int mri, .int mca, .int mpr, .int men, .ref a_mp, .ref a_me, .int mth, .int mrq, .ref a_mq, .long mtr, .ref a_mr, .ref a_mo, .int mos, .ref a_ml, .ref a_mt, .ref a_mf]))]) [0] (by decide) rfl
    refine fr_i (wr := []) (WN := fun (u22 : Unit) => [(a_m, .inr (7, [.int mkd, .int mrt, .int mri, .int mca, .int mpr, .int men, .ref a_mp, .ref a_me, .int mth, .int mrq, .ref a_mq, .long mtr, .ref a_mr, .ref a_mo, .int mos, .ref a_ml, .ref a_mt, .ref a_mf]))]) (va_runV (As := [.int p2]) (rest := []) ⟨hx, hb, hml, hown, hts⟩ (c_X7_rentsTo l dC dI kA a_m a_mp a_me a_mq a_mr a_mo a_ml a_mt a_mf s.heap.size mkd mrt mri mca mpr men mth mrq mtr mos p2 _ h) (cwV 1 hts gX7_costOf_X7_rentsTo rfl rfl rfl (by decide +kernel) ⟨Nat.le_of_ble_eq_true rfl, Nat.le_of_ble_eq_true rfl⟩) (prW.preV (ci := 7) (q0 := 0) hPc hDc hK hN rfl rfl) rfl rfl hl.1 rfl (lv_room (Nat.le_of_ble_eq_true rfl)) dX7_costOf_22 ⟨Nat.le_of_ble_eq_true rfl, Nat.le_of_ble_eq_true rfl⟩) hP hD hS hA [0] [] rfl rfl (by decide) (by decide) [0] (by decide) (fun _ => rfl) (fun r22 u22 H locs h hP hD hS => ?_)
    have hP : va_P (dC, dI) vwCl [(a_m, .inr (7, [.int mkd, .int mrt, .int mri, .int mca, .int mpr, .int men, .ref a_mp, .ref a_me, .int mth, .int mrq, .ref a_mq, .long mtr, .ref a_mr, .ref a_mo, .int mos, .ref a_ml, .ref a_mt, .ref a_mf]))] H := hP
    have hD : va_D A [(a_m, .inr (7, [.int mkd, .int mrt, .int mri, .int mca, .int mpr, .int men, .ref a_mp, .ref a_me, .int mth, .int mrq, .ref a_mq, .long mtr, .ref a_mr, .ref a_mo, .int mos, .ref a_ml, .ref a_mt, .ref a_mf]))] := hD
    rw [hQ]
    exact rt_i () hx hb hr hlocks h hP hD hS dX7_costOf_25
  · replace h := h.2 c2
    refine lv_aload_n hx hb dX7_costOf_5 rfl (lv_at hl 0 rfl) ?_
    refine lv_iload_n hx hb dX7_costOf_6 rfl (lv_at hl 1 rfl) ?_
    refine lv_iconst (v := (1 : Int32)) hx hb dX7_costOf_7 (by decide +kernel) ?_
    refine lv_isub hx hb dX7_costOf_8 ?_
    have hPc := hP.sub (ws' := [(a_m, .inr (7, [.int mkd, .int mrt, .int mri, .int mca, .int mpr, .int men, .ref a_mp, .ref a_me, .int mth, .int mrq, .ref a_mq, .long mtr, .ref a_mr, .ref a_mo, .int mos, .ref a_ml, .ref a_mt, .ref a_mf]))]) [0] rfl
    have hDc := hD.sub (ws' := [(a_m, .inr (7, [.int mkd, .int mrt, .int mri, .int mca, .int mpr, .int men, .ref a_mp, .ref a_me, .int mth, .int mrq, .ref a_mq, .long mtr, .ref a_mr, .ref a_mo, .int mos, .ref a_ml, .ref a_mt, .ref a_mf]))]) [0] (by decide) rfl
    refine fr_i (wr := []) (WN := fun (u9 : Unit) => [(a_m, .inr (7, [.int mkd, .int mrt, .int mri, .int mca, .int mpr, .int men, .ref a_mp, .ref a_me, .int mth, .int mrq, .ref a_mq, .long mtr, .ref a_mr, .ref a_mo, .int mos, .ref a_ml, .ref a_mt, .ref a_mf]))]) (va_runV (As := [.int (p1 - (1 : Int32))]) (rest := []) ⟨hx, hb, hml, hown, hts⟩ (c_X7_rentsTo l dC dI kA a_m a_mp a_me a_mq a_mr a_mo a_ml a_mt a_mf s.heap.size mkd mrt mri mca mpr men mth mrq mtr mos (p1 - (1 : Int32)) _ h) (cwV 1 hts gX7_costOf_X7_rentsTo rfl rfl rfl (by decide +kernel) ⟨Nat.le_of_ble_eq_true rfl, Nat.le_of_ble_eq_true rfl⟩) (prW.preV (ci := 7) (q0 := 0) hPc hDc hK hN rfl rfl) rfl rfl hl.1 rfl (lv_room (Nat.le_of_ble_eq_true rfl)) dX7_costOf_9 ⟨Nat.le_of_ble_eq_true rfl, Nat.le_of_ble_eq_true rfl⟩) hP hD hS hA [0] [] rfl rfl (by decide) (by decide) [0] (by decide) (fun _ => rfl) (fun r9 u9 H locs h hP hD hS => ?_)
    have hP : va_P (dC, dI) vwCl [(a_m, .inr (7, [.int mkd, .int mrt, .int mri, .int mca, .int mpr, .int men, .ref a_mp, .ref a_me, .int mth, .int mrq, .ref a_mq, .long mtr, .ref a_mr, .ref a_mo, .int mos, .ref a_ml, .ref a_mt, .ref a_mf]))] H := hP
    have hD : va_D A [(a_m, .inr (7, [.int mkd, .int mrt, .int mri, .int mca, .int mpr, .int men, .ref a_mp, .ref a_me, .int mth, .int mrq, .ref a_mq, .long mtr, .ref a_mr, .ref a_mo, .int mos, .ref a_ml, .ref a_mt, .ref a_mf]))] := hD
    refine lv_aload_n hx hb dX7_costOf_12 rfl (lv_at hl 0 rfl) ?_
    refine va_get (D := (dC, dI)) (ci := 7) (v := .int mpr) (C := RX7) (T := TX7) (N := 18) hx hb hts (fun _ h => List.mem_cons_of_mem _ (List.mem_append_right _ h)) hown hK hP 0 rfl rfl 4 (by decide) (hts (.fieldLink RX7 16 "RentOrBuyModel" "price" "I") (List.mem_cons_of_mem _ (List.mem_append_left _ (List.mem_of_getElem? (i := 0) rfl)))) (fun _ h9 => h9) rfl dX7_costOf_13 ?_
    refine lv_iadd hx hb dX7_costOf_16 ?_
    refine lv_goto (tgt := 25) hx hb dX7_costOf_17 (by decide) ?_
    rw [hQ]
    exact rt_i () hx hb hr hlocks h hP hD hS dX7_costOf_25

/-- RentOrBuyModel.knownBy -/
def rmX7_knownBy : Room := { frames := 2, cells := 0, slots := 0, locals := 45 }
set_option maxHeartbeats 4000000 in
set_option maxRecDepth 100000 in
theorem c_X7_knownBy (l : Launch) (dC : Nat → ClassId) (dI : Nat → Nat → Nat) (kA : ClassId) (a_m a_mp a_me a_mq a_mr a_mo a_ml a_mt a_mf : Nat) (sz : Nat) (mkd : Int32) (mrt : Int32) (mri : Int32) (mca : Int32) (mpr : Int32) (men : Int32) (mth : Int32) (mrq : Int32) (mtr : Int64) (mos : Int32) (p1 : Int32) (K : Int32 → Prop) (hg : g_X7_knownBy mkd mrt mri mca mpr men mth mrq mtr mos p1 K) : Met l yX7_knownBy wsX7_knownBy rmX7_knownBy (va_Pc [.ref a_m, .int p1] (prW (dC, dI) kA sz [(a_m, .inr (7, [.int mkd, .int mrt, .int mri, .int mca, .int mpr, .int men, .ref a_mp, .ref a_me, .int mth, .int mrq, .ref a_mq, .long mtr, .ref a_mr, .ref a_mo, .int mos, .ref a_ml, .ref a_mt, .ref a_mf]))])) (va_Qi (fun (r : Int32) (u : Unit) => K r) (poW (dC, dI) (va_A [(a_m, .inr (7, [.int mkd, .int mrt, .int mri, .int mca, .int mpr, .int men, .ref a_mp, .ref a_me, .int mth, .int mrq, .ref a_mq, .long mtr, .ref a_mr, .ref a_mo, .int mos, .ref a_ml, .ref a_mt, .ref a_mf]))] sz) (fun (u : Unit) => [(a_m, .inr (7, [.int mkd, .int mrt, .int mri, .int mca, .int mpr, .int men, .ref a_mp, .ref a_me, .int mth, .int mrq, .ref a_mq, .long mtr, .ref a_mr, .ref a_mo, .int mos, .ref a_ml, .ref a_mt, .ref a_mf]))])) (va_A [(a_m, .inr (7, [.int mkd, .int mrt, .int mri, .int mca, .int mpr, .int men, .ref a_mp, .ref a_me, .int mth, .int mrq, .ref a_mq, .long mtr, .ref a_mr, .ref a_mo, .int mos, .ref a_ml, .ref a_mt, .ref a_mf]))] sz)) 0 0 (va_A [(a_m, .inr (7, [.int mkd, .int mrt, .int mri, .int mca, .int mpr, .int men, .ref a_mp, .ref a_me, .int mth, .int mrq, .ref a_mq, .long mtr, .ref a_mr, .ref a_mo, .int mos, .ref a_ml, .ref a_mt, .ref a_mf]))] sz) := by
  refine Met.ofW (cc := cX7_knownBy) (maxL := 3) (ret := (some .int)) (by decide) rfl ?_
  intro p e s m args below meth c s₁ B hml hv
  obtain ⟨hargs, hsz, hP, hK, hD0, hN⟩ := hv
  have hx := B.exec
  have hb := B.bytes
  have hr := B.returns
  have hts := atoms_spec (ws := wsX7_knownBy) B.pre
  have hown : s.vm.findClass RX7 = some m.cls := findClass_of_methodNamed B.named
  have hlocks := B.notSynchronized
  subst hsz
  have hD := hD0.self (sz := s.heap.size)
  generalize hAe : va_A [(a_m, .inr (7, [.int mkd, .int mrt, .int mri, .int mca, .int mpr, .int men, .ref a_mp, .ref a_me, .int mth, .int mrq, .ref a_mq, .long mtr, .ref a_mr, .ref a_mo, .int mos, .ref a_ml, .ref a_mt, .ref a_mf]))] s.heap.size = A at hD ⊢
  have hA : ∀ q : Nat, s.heap.size ≤ q → A q := fun q h => by rw [← hAe]; exact Or.inr h
  have hS : va_S A s.heap s.heap [] := va_S.rf
  obtain ⟨Q, hQ⟩ : ∃ Q : State → Prop, Q = MQ below (va_Qi (fun (r : Int32) (u : Unit) => K r) (poW (dC, dI) A (fun (u : Unit) => [(a_m, .inr (7, [.int mkd, .int mrt, .int mri, .int mca, .int mpr, .int men, .ref a_mp, .ref a_me, .int mth, .int mrq, .ref a_mq, .long mtr, .ref a_mr, .ref a_mo, .int mos, .ref a_ml, .ref a_mt, .ref a_mf]))])) A) args s 0 0 A := ⟨_, rfl⟩
  rw [← hQ]
  have hP : va_P (dC, dI) vwCl [(a_m, .inr (7, [.int mkd, .int mrt, .int mri, .int mca, .int mpr, .int men, .ref a_mp, .ref a_me, .int mth, .int mrq, .ref a_mq, .long mtr, .ref a_mr, .ref a_mo, .int mos, .ref a_ml, .ref a_mt, .ref a_mf]))] s.heap := hP
  refine en_ok hargs (Nat.le_of_ble_eq_true rfl) (fun ls hl => ?_)
  have hl : lv_has ls 3 [(0, .ref a_m), (1, .int p1)] := hl
  have h := hg
  unfold g_X7_knownBy at h
  refine lv_aload_n hx hb dX7_knownBy_0 rfl (lv_at hl 0 rfl) ?_
  refine lv_iload_n hx hb dX7_knownBy_1 rfl (lv_at hl 1 rfl) ?_
  have hPc := hP.sub (ws' := [(a_m, .inr (7, [.int mkd, .int mrt, .int mri, .int mca, .int mpr, .int men, .ref a_mp, .ref a_me, .int mth, .int mrq, .ref a_mq, .long mtr, .ref a_mr, .ref a_mo, .int mos, .ref a_ml, .ref a_mt, .ref a_mf]))]) [0] rfl
  have hDc := hD.sub (ws' := [(a_m, .inr (7, [.int mkd, .int mrt, .int mri, .int mca, .int mpr, .int men, .ref a_mp, .ref a_me, .int mth, .int mrq, .ref a_mq, .long mtr, .ref a_mr, .ref a_mo, .int mos, .ref a_ml, .ref a_mt, .ref a_mf]))]) [0] (by decide) rfl
  refine fr_i (wr := []) (WN := fun (u2 : Unit) => [(a_m, .inr (7, [.int mkd, .int mrt, .int mri, .int mca, .int mpr, .int men, .ref a_mp, .ref a_me, .int mth, .int mrq, .ref a_mq, .long mtr, .ref a_mr, .ref a_mo, .int mos, .ref a_ml, .ref a_mt, .ref a_mf]))]) (va_runV (As := [.int p1]) (rest := []) ⟨hx, hb, hml, hown, hts⟩ (c_X7_rentsTo l dC dI kA a_m a_mp a_me a_mq a_mr a_mo a_ml a_mt a_mf s.heap.size mkd mrt mri mca mpr men mth mrq mtr mos p1 _ h) (cwV 1 hts gX7_knownBy_X7_rentsTo rfl rfl rfl (by decide +kernel) ⟨Nat.le_of_ble_eq_true rfl, Nat.le_of_ble_eq_true rfl⟩) (prW.preV (ci := 7) (q0 := 0) hPc hDc hK hN rfl rfl) rfl rfl hl.1 rfl (lv_room (Nat.le_of_ble_eq_true rfl)) dX7_knownBy_2 ⟨Nat.le_of_ble_eq_true rfl, Nat.le_of_ble_eq_true rfl⟩) hP hD hS hA [0] [] rfl rfl (by decide) (by decide) [0] (by decide) (fun _ => rfl) (fun r2 u2 H locs h hP hD hS => ?_)
  have hP : va_P (dC, dI) vwCl [(a_m, .inr (7, [.int mkd, .int mrt, .int mri, .int mca, .int mpr, .int men, .ref a_mp, .ref a_me, .int mth, .int mrq, .ref a_mq, .long mtr, .ref a_mr, .ref a_mo, .int mos, .ref a_ml, .ref a_mt, .ref a_mf]))] H := hP
  have hD : va_D A [(a_m, .inr (7, [.int mkd, .int mrt, .int mri, .int mca, .int mpr, .int men, .ref a_mp, .ref a_me, .int mth, .int mrq, .ref a_mq, .long mtr, .ref a_mr, .ref a_mo, .int mos, .ref a_ml, .ref a_mt, .ref a_mf]))] := hD
  refine lv_istore_n (lv' := [(2, .int r2), (0, .ref a_m), (1, .int p1)]) hx hb dX7_knownBy_5 rfl hl (by decide) rfl (fun ls hl => ?_)
  refine lv_aload_n hx hb dX7_knownBy_6 rfl (lv_at hl 1 rfl) ?_
  refine va_get (D := (dC, dI)) (ci := 7) (v := .int mpr) (C := RX7) (T := TX7) (N := 18) hx hb hts (fun _ h => List.mem_cons_of_mem _ (List.mem_append_right _ h)) hown hK hP 0 rfl rfl 4 (by decide) (hts (.fieldLink RX7 16 "RentOrBuyModel" "price" "I") (List.mem_cons_of_mem _ (List.mem_append_left _ (List.mem_of_getElem? (i := 0) rfl)))) (fun _ h9 => h9) rfl dX7_knownBy_7 ?_
  refine lv_iload_n hx hb dX7_knownBy_10 rfl (lv_at hl 0 rfl) ?_
  refine lv_icmp_ge (tgt := 21) hx hb dX7_knownBy_11 (by decide) (fun c11 => ?_) (fun c11 => ?_)
  · replace h := h.1 c11
    refine lv_iload_n hx hb dX7_knownBy_21 rfl (lv_at hl 0 rfl) ?_
    rw [hQ]
    exact rt_i () hx hb hr hlocks h hP hD hS dX7_knownBy_22
  · replace h := h.2 c11
    refine lv_aload_n hx hb dX7_knownBy_14 rfl (lv_at hl 1 rfl) ?_
    refine va_get (D := (dC, dI)) (ci := 7) (v := .int mpr) (C := RX7) (T := TX7) (N := 18) hx hb hts (fun _ h => List.mem_cons_of_mem _ (List.mem_append_right _ h)) hown hK hP 0 rfl rfl 4 (by decide) (hts (.fieldLink RX7 16 "RentOrBuyModel" "price" "I") (List.mem_cons_of_mem _ (List.mem_append_left _ (List.mem_of_getElem? (i := 0) rfl)))) (fun _ h9 => h9) rfl dX7_knownBy_15 ?_
    refine lv_goto (tgt := 22) hx hb dX7_knownBy_18 (by decide) ?_
    rw [hQ]
    exact rt_i () hx hb hr hlocks h hP hD hS dX7_knownBy_22

