/-- RentOrBuyModel.serve -/
def rmX7_serve : Room := { frames := 3, cells := 0, slots := 0, locals := 74 }
set_option maxHeartbeats 4000000 in
set_option maxRecDepth 100000 in
theorem c_X7_serve (l : Launch) (dC : Nat → ClassId) (dI : Nat → Nat → Nat) (kA : ClassId) (a_m a_mq a_mr a_mo a_ml a_mt a_mf a_mp a_me : Nat) (sz : Nat) (mkd : Int32) (mrt : Int32) (mri : Int32) (mca : Int32) (mpr : Int32) (men : Int32) (mth : Int32) (mrq : Int32) (mtr : Int64) (mos : Int32) (mqF : Nat → Int32) (mrF : Nat → Int32) (moF : Nat → Int32) (mlF : Nat → Int32) (mtF : Nat → Int32) (mfF : Nat → Int32) (p1 : Int32) (K : Int32 → Int32 → (Nat → Int32) → (Nat → Int32) → (Nat → Int32) → (Nat → Int32) → (Nat → Int32) → Prop) (hg : g_X7_serve mkd mrt mri mca mpr men mth mrq mtr mos mqF mrF moF mlF mtF mfF p1 K) : Met l yX7_serve wsX7_serve rmX7_serve (va_Pc [.ref a_m, .int p1] (prW (dC, dI) kA sz [(a_m, .inr (7, [.int mkd, .int mrt, .int mri, .int mca, .int mpr, .int men, .ref a_mp, .ref a_me, .int mth, .int mrq, .ref a_mq, .long mtr, .ref a_mr, .ref a_mo, .int mos, .ref a_ml, .ref a_mt, .ref a_mf])), (a_mq, .inl (kA, 16, .inl mqF)), (a_mr, .inl (kA, 4, .inl mrF)), (a_mo, .inl (kA, 96, .inl moF)), (a_ml, .inl (kA, 24, .inl mlF)), (a_mt, .inl (kA, 24, .inl mtF)), (a_mf, .inl (kA, 576, .inl mfF))])) (va_Qi (fun (r : Int32) (u : Int32 × (Nat → Int32) × (Nat → Int32) × (Nat → Int32) × (Nat → Int32) × (Nat → Int32)) => K r u.1 u.2.1 u.2.2.1 u.2.2.2.1 u.2.2.2.2.1 u.2.2.2.2.2) (poW (dC, dI) (va_A [(a_m, .inr (7, [.int mkd, .int mrt, .int mri, .int mca, .int mpr, .int men, .ref a_mp, .ref a_me, .int mth, .int mrq, .ref a_mq, .long mtr, .ref a_mr, .ref a_mo, .int mos, .ref a_ml, .ref a_mt, .ref a_mf])), (a_mq, .inl (kA, 16, .inl mqF)), (a_mr, .inl (kA, 4, .inl mrF)), (a_mo, .inl (kA, 96, .inl moF)), (a_ml, .inl (kA, 24, .inl mlF)), (a_mt, .inl (kA, 24, .inl mtF)), (a_mf, .inl (kA, 576, .inl mfF))] sz) (fun (u : Int32 × (Nat → Int32) × (Nat → Int32) × (Nat → Int32) × (Nat → Int32) × (Nat → Int32)) => [(a_m, .inr (7, [.int mkd, .int mrt, .int mri, .int mca, .int mpr, .int men, .ref a_mp, .ref a_me, .int mth, .int mrq, .ref a_mq, .long mtr, .ref a_mr, .ref a_mo, .int u.1, .ref a_ml, .ref a_mt, .ref a_mf])), (a_mq, .inl (kA, 16, .inl mqF)), (a_mr, .inl (kA, 4, .inl u.2.1)), (a_mo, .inl (kA, 96, .inl u.2.2.1)), (a_ml, .inl (kA, 24, .inl u.2.2.2.1)), (a_mt, .inl (kA, 24, .inl u.2.2.2.2.1)), (a_mf, .inl (kA, 576, .inl u.2.2.2.2.2))])) (va_A [(a_m, .inr (7, [.int mkd, .int mrt, .int mri, .int mca, .int mpr, .int men, .ref a_mp, .ref a_me, .int mth, .int mrq, .ref a_mq, .long mtr, .ref a_mr, .ref a_mo, .int mos, .ref a_ml, .ref a_mt, .ref a_mf])), (a_mq, .inl (kA, 16, .inl mqF)), (a_mr, .inl (kA, 4, .inl mrF)), (a_mo, .inl (kA, 96, .inl moF)), (a_ml, .inl (kA, 24, .inl mlF)), (a_mt, .inl (kA, 24, .inl mtF)), (a_mf, .inl (kA, 576, .inl mfF))] sz)) 0 0 (va_A [(a_m, .inr (7, [.int mkd, .int mrt, .int mri, .int mca, .int mpr, .int men, .ref a_mp, .ref a_me, .int mth, .int mrq, .ref a_mq, .long mtr, .ref a_mr, .ref a_mo, .int mos, .ref a_ml, .ref a_mt, .ref a_mf])), (a_mq, .inl (kA, 16, .inl mqF)), (a_mr, .inl (kA, 4, .inl mrF)), (a_mo, .inl (kA, 96, .inl moF)), (a_ml, .inl (kA, 24, .inl mlF)), (a_mt, .inl (kA, 24, .inl mtF)), (a_mf, .inl (kA, 576, .inl mfF))] sz) := by
  refine Met.ofW (cc := cX7_serve) (maxL := 8) (ret := (some .int)) (by decide) rfl ?_
  intro p e s m args below meth c s₁ B hml hv
  obtain ⟨hargs, hsz, hP, hK, hD0, hN⟩ := hv
  have hx := B.exec
  have hb := B.bytes
  have hr := B.returns
  have hts := atoms_spec (ws := wsX7_serve) B.pre
  have hown : s.vm.findClass RX7 = some m.cls := findClass_of_methodNamed B.named
  have hlocks := B.notSynchronized
  subst hsz
  have hD := hD0.self (sz := s.heap.size)
  generalize hAe : va_A [(a_m, .inr (7, [.int mkd, .int mrt, .int mri, .int mca, .int mpr, .int men, .ref a_mp, .ref a_me, .int mth, .int mrq, .ref a_mq, .long mtr, .ref a_mr, .ref a_mo, .int mos, .ref a_ml, .ref a_mt, .ref a_mf])), (a_mq, .inl (kA, 16, .inl mqF)), (a_mr, .inl (kA, 4, .inl mrF)), (a_mo, .inl (kA, 96, .inl moF)), (a_ml, .inl (kA, 24, .inl mlF)), (a_mt, .inl (kA, 24, .inl mtF)), (a_mf, .inl (kA, 576, .inl mfF))] s.heap.size = A at hD ⊢
  have hA : ∀ q : Nat, s.heap.size ≤ q → A q := fun q h => by rw [← hAe]; exact Or.inr h
  have hS : va_S A s.heap s.heap [] := va_S.rf
  obtain ⟨Q, hQ⟩ : ∃ Q : State → Prop, Q = MQ below (va_Qi (fun (r : Int32) (u : Int32 × (Nat → Int32) × (Nat → Int32) × (Nat → Int32) × (Nat → Int32) × (Nat → Int32)) => K r u.1 u.2.1 u.2.2.1 u.2.2.2.1 u.2.2.2.2.1 u.2.2.2.2.2) (poW (dC, dI) A (fun (u : Int32 × (Nat → Int32) × (Nat → Int32) × (Nat → Int32) × (Nat → Int32) × (Nat → Int32)) => [(a_m, .inr (7, [.int mkd, .int mrt, .int mri, .int mca, .int mpr, .int men, .ref a_mp, .ref a_me, .int mth, .int mrq, .ref a_mq, .long mtr, .ref a_mr, .ref a_mo, .int u.1, .ref a_ml, .ref a_mt, .ref a_mf])), (a_mq, .inl (kA, 16, .inl mqF)), (a_mr, .inl (kA, 4, .inl u.2.1)), (a_mo, .inl (kA, 96, .inl u.2.2.1)), (a_ml, .inl (kA, 24, .inl u.2.2.2.1)), (a_mt, .inl (kA, 24, .inl u.2.2.2.2.1)), (a_mf, .inl (kA, 576, .inl u.2.2.2.2.2))])) A) args s 0 0 A := ⟨_, rfl⟩
  rw [← hQ]
  have hP : va_P (dC, dI) vwCl [(a_m, .inr (7, [.int mkd, .int mrt, .int mri, .int mca, .int mpr, .int men, .ref a_mp, .ref a_me, .int mth, .int mrq, .ref a_mq, .long mtr, .ref a_mr, .ref a_mo, .int mos, .ref a_ml, .ref a_mt, .ref a_mf])), (a_mq, .inl (kA, 16, .inl mqF)), (a_mr, .inl (kA, 4, .inl mrF)), (a_mo, .inl (kA, 96, .inl moF)), (a_ml, .inl (kA, 24, .inl mlF)), (a_mt, .inl (kA, 24, .inl mtF)), (a_mf, .inl (kA, 576, .inl mfF))] s.heap := hP
  refine en_ok hargs (Nat.le_of_ble_eq_true rfl) (fun ls hl => ?_)
  have hl : lv_has ls 8 [(0, .ref a_m), (1, .int p1)] := hl
  have h := hg
  unfold g_X7_serve at h
  refine lv_iload_n hx hb dX7_serve_0 rfl (lv_at hl 1 rfl) ?_
  refine lv_iconst (v := (0 : Int32)) hx hb dX7_serve_1 (by decide +kernel) ?_
  refine lv_iconst (v := (3 : Int32)) hx hb dX7_serve_2 (by decide +kernel) ?_
  have hPc := hP.sub (ws' := []) [] rfl
  have hDc := hD.sub (ws' := []) [] (by decide) rfl
  refine fr_i (wr := [(a_m, .inr (7, [.int mkd, .int mrt, .int mri, .int mca, .int mpr, .int men, .ref a_mp, .ref a_me, .int mth, .int mrq, .ref a_mq, .long mtr, .ref a_mr, .ref a_mo, .int mos, .ref a_ml, .ref a_mt, .ref a_mf])), (a_mq, .inl (kA, 16, .inl mqF)), (a_mr, .inl (kA, 4, .inl mrF)), (a_mo, .inl (kA, 96, .inl moF)), (a_ml, .inl (kA, 24, .inl mlF)), (a_mt, .inl (kA, 24, .inl mtF)), (a_mf, .inl (kA, 576, .inl mfF))]) (WN := fun (u3 : Unit) => [(a_m, .inr (7, [.int mkd, .int mrt, .int mri, .int mca, .int mpr, .int men, .ref a_mp, .ref a_me, .int mth, .int mrq, .ref a_mq, .long mtr, .ref a_mr, .ref a_mo, .int mos, .ref a_ml, .ref a_mt, .ref a_mf])), (a_mq, .inl (kA, 16, .inl mqF)), (a_mr, .inl (kA, 4, .inl mrF)), (a_mo, .inl (kA, 96, .inl moF)), (a_ml, .inl (kA, 24, .inl mlF)), (a_mt, .inl (kA, 24, .inl mtF)), (a_mf, .inl (kA, 576, .inl mfF))]) (va_runS (As := [.int p1, .int (0 : Int32), .int (3 : Int32)]) (rest := []) ⟨hx, hb, hml, hown, hts⟩ (c_X7_in l dC dI kA s.heap.size p1 (0 : Int32) (3 : Int32) _ h) (va_cwS 3 hts gX7_serve_X7_in rfl rfl rfl (by decide +kernel) ⟨Nat.le_of_ble_eq_true rfl, Nat.le_of_ble_eq_true rfl⟩) (prW.preS hPc hDc hK hN) rfl rfl hl.1 rfl (lv_room (Nat.le_of_ble_eq_true rfl)) dX7_serve_3 ⟨Nat.le_of_ble_eq_true rfl, Nat.le_of_ble_eq_true rfl⟩) hP hD hS hA [] [0, 1, 2, 3, 4, 5, 6] rfl rfl (by decide) (by decide) [0, 1, 2, 3, 4, 5, 6] (by decide) (fun _ => rfl) (fun r3 u3 H locs h hP hD hS => ?_)
  have hP : va_P (dC, dI) vwCl [(a_m, .inr (7, [.int mkd, .int mrt, .int mri, .int mca, .int mpr, .int men, .ref a_mp, .ref a_me, .int mth, .int mrq, .ref a_mq, .long mtr, .ref a_mr, .ref a_mo, .int mos, .ref a_ml, .ref a_mt, .ref a_mf])), (a_mq, .inl (kA, 16, .inl mqF)), (a_mr, .inl (kA, 4, .inl mrF)), (a_mo, .inl (kA, 96, .inl moF)), (a_ml, .inl (kA, 24, .inl mlF)), (a_mt, .inl (kA, 24, .inl mtF)), (a_mf, .inl (kA, 576, .inl mfF))] H := hP
  have hD : va_D A [(a_m, .inr (7, [.int mkd, .int mrt, .int mri, .int mca, .int mpr, .int men, .ref a_mp, .ref a_me, .int mth, .int mrq, .ref a_mq, .long mtr, .ref a_mr, .ref a_mo, .int mos, .ref a_ml, .ref a_mt, .ref a_mf])), (a_mq, .inl (kA, 16, .inl mqF)), (a_mr, .inl (kA, 4, .inl mrF)), (a_mo, .inl (kA, 96, .inl moF)), (a_ml, .inl (kA, 24, .inl mlF)), (a_mt, .inl (kA, 24, .inl mtF)), (a_mf, .inl (kA, 576, .inl mfF))] := hD
  refine lv_if_ne (tgt := 11) hx hb dX7_serve_6 (by decide) (fun c6 => ?_) (fun c6 => ?_)
  · replace h := h.1 c6
    refine lv_iload_n hx hb dX7_serve_11 rfl (lv_at hl 1 rfl) ?_
    refine lv_if_ne (tgt := 20) hx hb dX7_serve_12 (by decide) (fun c12 => ?_) (fun c12 => ?_)
    · replace h := h.1 c12
      refine lv_aload_n hx hb dX7_serve_20 rfl (lv_at hl 0 rfl) ?_
      have hPc := hP.sub (ws' := [(a_m, .inr (7, [.int mkd, .int mrt, .int mri, .int mca, .int mpr, .int men, .ref a_mp, .ref a_me, .int mth, .int mrq, .ref a_mq, .long mtr, .ref a_mr, .ref a_mo, .int mos, .ref a_ml, .ref a_mt, .ref a_mf])), (a_mo, .inl (kA, 96, .inl moF))]) [0, 3] rfl
      have hDc := hD.sub (ws' := [(a_m, .inr (7, [.int mkd, .int mrt, .int mri, .int mca, .int mpr, .int men, .ref a_mp, .ref a_me, .int mth, .int mrq, .ref a_mq, .long mtr, .ref a_mr, .ref a_mo, .int mos, .ref a_ml, .ref a_mt, .ref a_mf])), (a_mo, .inl (kA, 96, .inl moF))]) [0, 3] (by decide) rfl
      refine fr_v (wr := [(a_mq, .inl (kA, 16, .inl mqF)), (a_mr, .inl (kA, 4, .inl mrF)), (a_ml, .inl (kA, 24, .inl mlF)), (a_mt, .inl (kA, 24, .inl mtF)), (a_mf, .inl (kA, 576, .inl mfF))]) (WN := fun (u21 : Int32 × (Nat → Int32)) => [(a_m, .inr (7, [.int mkd, .int mrt, .int mri, .int mca, .int mpr, .int men, .ref a_mp, .ref a_me, .int mth, .int mrq, .ref a_mq, .long mtr, .ref a_mr, .ref a_mo, .int u21.1, .ref a_ml, .ref a_mt, .ref a_mf])), (a_mq, .inl (kA, 16, .inl mqF)), (a_mr, .inl (kA, 4, .inl mrF)), (a_mo, .inl (kA, 96, .inl u21.2)), (a_ml, .inl (kA, 24, .inl mlF)), (a_mt, .inl (kA, 24, .inl mtF)), (a_mf, .inl (kA, 576, .inl mfF))]) (va_runV (As := []) (rest := []) ⟨hx, hb, hml, hown, hts⟩ (c_X7_ordersOf l dC dI kA a_m a_mo a_mp a_me a_mq a_mr a_ml a_mt a_mf H.size mkd mrt mri mca mpr men mth mrq mtr mos moF _ h) (cwV 0 hts gX7_serve_X7_ordersOf rfl rfl rfl (by decide +kernel) ⟨Nat.le_of_ble_eq_true rfl, Nat.le_of_ble_eq_true rfl⟩) (prW.preV (ci := 7) (q0 := 0) hPc hDc hK hN rfl rfl) rfl rfl hl.1 rfl (lv_room (Nat.le_of_ble_eq_true rfl)) dX7_serve_21 ⟨Nat.le_of_ble_eq_true rfl, Nat.le_of_ble_eq_true rfl⟩) hP hD hS hA [0, 3] [1, 2, 4, 5, 6] rfl rfl (by decide) (by decide) [5, 0, 1, 6, 2, 3, 4] (by decide) (fun _ => rfl) (fun u21 H locs h hP hD hS => ?_)
      obtain ⟨y21_mos', y21_moF'⟩ := u21
      have hP : va_P (dC, dI) vwCl [(a_m, .inr (7, [.int mkd, .int mrt, .int mri, .int mca, .int mpr, .int men, .ref a_mp, .ref a_me, .int mth, .int mrq, .ref a_mq, .long mtr, .ref a_mr, .ref a_mo, .int y21_mos', .ref a_ml, .ref a_mt, .ref a_mf])), (a_mq, .inl (kA, 16, .inl mqF)), (a_mr, .inl (kA, 4, .inl mrF)), (a_mo, .inl (kA, 96, .inl y21_moF')), (a_ml, .inl (kA, 24, .inl mlF)), (a_mt, .inl (kA, 24, .inl mtF)), (a_mf, .inl (kA, 576, .inl mfF))] H := hP
      have hD : va_D A [(a_m, .inr (7, [.int mkd, .int mrt, .int mri, .int mca, .int mpr, .int men, .ref a_mp, .ref a_me, .int mth, .int mrq, .ref a_mq, .long mtr, .ref a_mr, .ref a_mo, .int y21_mos', .ref a_ml, .ref a_mt, .ref a_mf])), (a_mq, .inl (kA, 16, .inl mqF)), (a_mr, .inl (kA, 4, .inl mrF)), (a_mo, .inl (kA, 96, .inl y21_moF')), (a_ml, .inl (kA, 24, .inl mlF)), (a_mt, .inl (kA, 24, .inl mtF)), (a_mf, .inl (kA, 576, .inl mfF))] := hD
      refine lv_iconst (v := (-1 : Int32)) hx hb dX7_serve_24 (by decide +kernel) ?_
      refine lv_istore_n (lv' := [(2, .int (-1 : Int32)), (0, .ref a_m), (1, .int p1)]) hx hb dX7_serve_25 rfl hl (by decide) rfl (fun ls hl => ?_)
      refine lv_iconst (v := (0 : Int32)) hx hb dX7_serve_26 (by decide +kernel) ?_
      refine lv_istore_n (lv' := [(3, .int (0 : Int32)), (2, .int (-1 : Int32)), (0, .ref a_m), (1, .int p1)]) hx hb dX7_serve_27 rfl hl (by decide) rfl (fun ls hl => ?_)
      refine lv_iconst (v := (0 : Int32)) hx hb dX7_serve_28 (by decide +kernel) ?_
      refine lv_istore (lv' := [(4, .int (0 : Int32)), (3, .int (0 : Int32)), (2, .int (-1 : Int32)), (0, .ref a_m), (1, .int p1)]) hx hb dX7_serve_29 hl (by decide) rfl (fun ls hl => ?_)
      obtain ⟨J31, ⟨n31, h⟩, hz31, hs31⟩ := h
      have hL31 : ∀ (n31 : Nat) (v2_31 : Int32) (v3_31 : Int32) (v4_31 : Int32), J31 n31 v2_31 v3_31 v4_31 → ∀ (H : Heap) (locs : List Loc) (ls : Array Slot), va_P (dC, dI) vwCl [(a_m, .inr (7, [.int mkd, .int mrt, .int mri, .int mca, .int mpr, .int men, .ref a_mp, .ref a_me, .int mth, .int mrq, .ref a_mq, .long mtr, .ref a_mr, .ref a_mo, .int y21_mos', .ref a_ml, .ref a_mt, .ref a_mf])), (a_mq, .inl (kA, 16, .inl mqF)), (a_mr, .inl (kA, 4, .inl mrF)), (a_mo, .inl (kA, 96, .inl y21_moF')), (a_ml, .inl (kA, 24, .inl mlF)), (a_mt, .inl (kA, 24, .inl mtF)), (a_mf, .inl (kA, 576, .inl mfF))] H → va_D A [(a_m, .inr (7, [.int mkd, .int mrt, .int mri, .int mca, .int mpr, .int men, .ref a_mp, .ref a_me, .int mth, .int mrq, .ref a_mq, .long mtr, .ref a_mr, .ref a_mo, .int y21_mos', .ref a_ml, .ref a_mt, .ref a_mf])), (a_mq, .inl (kA, 16, .inl mqF)), (a_mr, .inl (kA, 4, .inl mrF)), (a_mo, .inl (kA, 96, .inl y21_moF')), (a_ml, .inl (kA, 24, .inl mlF)), (a_mt, .inl (kA, 24, .inl mtF)), (a_mf, .inl (kA, 576, .inl mfF))] → va_S A s.heap H locs → lv_has ls 8 [(0, .ref a_m), (1, .int p1), (2, .int v2_31), (3, .int v3_31), (4, .int v4_31)] → W p l e (headSpec wsX7_serve rmX7_serve).room s m args below meth c H locs 0 0 Q (F0 m 31 ls []) := by
        intro n31
        induction n31 with
        | zero => intro v2_31 v3_31 v4_31 h; exact absurd h (hz31 v2_31 v3_31 v4_31)
        | succ n31 ih31 =>
          intro v2_31 v3_31 v4_31 h H locs ls hP hD hS hl
          replace h := hs31 n31 v2_31 v3_31 v4_31 h
          refine lv_iload hx hb dX7_serve_31 (lv_at hl 4 rfl) ?_
          refine lv_aload_n hx hb dX7_serve_33 rfl (lv_at hl 0 rfl) ?_
          refine va_get (D := (dC, dI)) (ci := 7) (v := .int y21_mos') (C := RX7) (T := TX7) (N := 18) hx hb hts (fun _ h => List.mem_cons_of_mem _ (List.mem_append_right _ h)) hown hK hP 0 rfl rfl 14 (by decide) (hts (.fieldLink RX7 135 "RentOrBuyModel" "orders" "I") (List.mem_cons_of_mem _ (List.mem_append_left _ (List.mem_of_getElem? (i := 0) rfl)))) (fun _ h9 => h9) rfl dX7_serve_34 ?_
          refine lv_icmp_ge (tgt := 133) hx hb dX7_serve_37 (by decide) (fun c37 => ?_) (fun c37 => ?_)
          · replace h := h.1 c37
            refine lv_iload_n hx hb dX7_serve_133 rfl (lv_at hl 1 rfl) ?_
            refine lv_iconst (v := (1 : Int32)) hx hb dX7_serve_134 (by decide +kernel) ?_
            refine lv_icmp_ne (tgt := 142) hx hb dX7_serve_135 (by decide) (fun c135 => ?_) (fun c135 => ?_)
            · replace h := h.1 c135
              refine lv_iload_n hx hb dX7_serve_142 rfl (lv_at hl 1 rfl) ?_
              refine lv_iconst (v := (2 : Int32)) hx hb dX7_serve_143 (by decide +kernel) ?_
              refine lv_icmp_ne (tgt := 151) hx hb dX7_serve_144 (by decide) (fun c144 => ?_) (fun c144 => ?_)
              · replace h := h.1 c144
                refine lv_aload_n hx hb dX7_serve_151 rfl (lv_at hl 0 rfl) ?_
                have hPc := hP.sub (ws' := [(a_m, .inr (7, [.int mkd, .int mrt, .int mri, .int mca, .int mpr, .int men, .ref a_mp, .ref a_me, .int mth, .int mrq, .ref a_mq, .long mtr, .ref a_mr, .ref a_mo, .int y21_mos', .ref a_ml, .ref a_mt, .ref a_mf])), (a_mq, .inl (kA, 16, .inl mqF)), (a_mo, .inl (kA, 96, .inl y21_moF')), (a_ml, .inl (kA, 24, .inl mlF)), (a_mt, .inl (kA, 24, .inl mtF)), (a_mf, .inl (kA, 576, .inl mfF))]) [0, 1, 3, 4, 5, 6] rfl
                have hDc := hD.sub (ws' := [(a_m, .inr (7, [.int mkd, .int mrt, .int mri, .int mca, .int mpr, .int men, .ref a_mp, .ref a_me, .int mth, .int mrq, .ref a_mq, .long mtr, .ref a_mr, .ref a_mo, .int y21_mos', .ref a_ml, .ref a_mt, .ref a_mf])), (a_mq, .inl (kA, 16, .inl mqF)), (a_mo, .inl (kA, 96, .inl y21_moF')), (a_ml, .inl (kA, 24, .inl mlF)), (a_mt, .inl (kA, 24, .inl mtF)), (a_mf, .inl (kA, 576, .inl mfF))]) [0, 1, 3, 4, 5, 6] (by decide) rfl
                refine fr_i (wr := [(a_mr, .inl (kA, 4, .inl mrF))]) (WN := fun (u152 : (Nat → Int32) × (Nat → Int32) × (Nat → Int32)) => [(a_m, .inr (7, [.int mkd, .int mrt, .int mri, .int mca, .int mpr, .int men, .ref a_mp, .ref a_me, .int mth, .int mrq, .ref a_mq, .long mtr, .ref a_mr, .ref a_mo, .int y21_mos', .ref a_ml, .ref a_mt, .ref a_mf])), (a_mq, .inl (kA, 16, .inl mqF)), (a_mr, .inl (kA, 4, .inl mrF)), (a_mo, .inl (kA, 96, .inl y21_moF')), (a_ml, .inl (kA, 24, .inl u152.1)), (a_mt, .inl (kA, 24, .inl u152.2.1)), (a_mf, .inl (kA, 576, .inl u152.2.2))]) (va_runV (As := []) (rest := []) ⟨hx, hb, hml, hown, hts⟩ (c_X7_bestCost l dC dI kA a_m a_mq a_mo a_ml a_mt a_mf a_mp a_me a_mr H.size mkd mrt mri mca mpr men mth mrq mtr y21_mos' mqF y21_moF' mlF mtF mfF _ h) (cwV 0 hts gX7_serve_X7_bestCost rfl rfl rfl (by decide +kernel) ⟨Nat.le_of_ble_eq_true rfl, Nat.le_of_ble_eq_true rfl⟩) (prW.preV (ci := 7) (q0 := 0) hPc hDc hK hN rfl rfl) rfl rfl hl.1 rfl (lv_room (Nat.le_of_ble_eq_true rfl)) dX7_serve_152 ⟨Nat.le_of_ble_eq_true rfl, Nat.le_of_ble_eq_true rfl⟩) hP hD hS hA [0, 1, 3, 4, 5, 6] [2] rfl rfl (by decide) (by decide) [1, 2, 0, 3, 4, 5, 6] (by decide) (fun _ => rfl) (fun r152 u152 H locs h hP hD hS => ?_)
                obtain ⟨y152_mlF', y152_mtF', y152_mfF'⟩ := u152
                have hP : va_P (dC, dI) vwCl [(a_m, .inr (7, [.int mkd, .int mrt, .int mri, .int mca, .int mpr, .int men, .ref a_mp, .ref a_me, .int mth, .int mrq, .ref a_mq, .long mtr, .ref a_mr, .ref a_mo, .int y21_mos', .ref a_ml, .ref a_mt, .ref a_mf])), (a_mq, .inl (kA, 16, .inl mqF)), (a_mr, .inl (kA, 4, .inl mrF)), (a_mo, .inl (kA, 96, .inl y21_moF')), (a_ml, .inl (kA, 24, .inl y152_mlF')), (a_mt, .inl (kA, 24, .inl y152_mtF')), (a_mf, .inl (kA, 576, .inl y152_mfF'))] H := hP
                have hD : va_D A [(a_m, .inr (7, [.int mkd, .int mrt, .int mri, .int mca, .int mpr, .int men, .ref a_mp, .ref a_me, .int mth, .int mrq, .ref a_mq, .long mtr, .ref a_mr, .ref a_mo, .int y21_mos', .ref a_ml, .ref a_mt, .ref a_mf])), (a_mq, .inl (kA, 16, .inl mqF)), (a_mr, .inl (kA, 4, .inl mrF)), (a_mo, .inl (kA, 96, .inl y21_moF')), (a_ml, .inl (kA, 24, .inl y152_mlF')), (a_mt, .inl (kA, 24, .inl y152_mtF')), (a_mf, .inl (kA, 576, .inl y152_mfF'))] := hD
                rw [hQ]
                exact rt_i (y21_mos', mrF, y21_moF', y152_mlF', y152_mtF', y152_mfF') hx hb hr hlocks h hP hD hS dX7_serve_155
              · replace h := h.2 c144
                refine lv_iload_n hx hb dX7_serve_147 rfl (lv_at hl 2 rfl) ?_
                refine lv_goto (tgt := 155) hx hb dX7_serve_148 (by decide) ?_
                rw [hQ]
                exact rt_i (y21_mos', mrF, y21_moF', mlF, mtF, mfF) hx hb hr hlocks h hP hD hS dX7_serve_155
            · replace h := h.2 c135
              refine lv_iload_n hx hb dX7_serve_138 rfl (lv_at hl 3 rfl) ?_
              refine lv_goto (tgt := 155) hx hb dX7_serve_139 (by decide) ?_
              rw [hQ]
              exact rt_i (y21_mos', mrF, y21_moF', mlF, mtF, mfF) hx hb hr hlocks h hP hD hS dX7_serve_155
          · replace h := h.2 c37
            refine lv_aload_n hx hb dX7_serve_40 rfl (lv_at hl 0 rfl) ?_
            refine lv_iload hx hb dX7_serve_41 (lv_at hl 4 rfl) ?_
            have hPc := hP.sub (ws' := [(a_m, .inr (7, [.int mkd, .int mrt, .int mri, .int mca, .int mpr, .int men, .ref a_mp, .ref a_me, .int mth, .int mrq, .ref a_mq, .long mtr, .ref a_mr, .ref a_mo, .int y21_mos', .ref a_ml, .ref a_mt, .ref a_mf])), (a_mq, .inl (kA, 16, .inl mqF)), (a_mo, .inl (kA, 96, .inl y21_moF'))]) [0, 1, 3] rfl
            have hDc := hD.sub (ws' := [(a_m, .inr (7, [.int mkd, .int mrt, .int mri, .int mca, .int mpr, .int men, .ref a_mp, .ref a_me, .int mth, .int mrq, .ref a_mq, .long mtr, .ref a_mr, .ref a_mo, .int y21_mos', .ref a_ml, .ref a_mt, .ref a_mf])), (a_mq, .inl (kA, 16, .inl mqF)), (a_mo, .inl (kA, 96, .inl y21_moF'))]) [0, 1, 3] (by decide) rfl
            refine fr_i (wr := [(a_mr, .inl (kA, 4, .inl mrF)), (a_ml, .inl (kA, 24, .inl mlF)), (a_mt, .inl (kA, 24, .inl mtF)), (a_mf, .inl (kA, 576, .inl mfF))]) (WN := fun (u43 : Unit) => [(a_m, .inr (7, [.int mkd, .int mrt, .int mri, .int mca, .int mpr, .int men, .ref a_mp, .ref a_me, .int mth, .int mrq, .ref a_mq, .long mtr, .ref a_mr, .ref a_mo, .int y21_mos', .ref a_ml, .ref a_mt, .ref a_mf])), (a_mq, .inl (kA, 16, .inl mqF)), (a_mr, .inl (kA, 4, .inl mrF)), (a_mo, .inl (kA, 96, .inl y21_moF')), (a_ml, .inl (kA, 24, .inl mlF)), (a_mt, .inl (kA, 24, .inl mtF)), (a_mf, .inl (kA, 576, .inl mfF))]) (va_runV (As := [.int v4_31]) (rest := []) ⟨hx, hb, hml, hown, hts⟩ (c_X7_staysCost l dC dI kA a_m a_mq a_mo a_mp a_me a_mr a_ml a_mt a_mf H.size mkd mrt mri mca mpr men mth mrq mtr y21_mos' mqF y21_moF' v4_31 _ h) (cwV 1 hts gX7_serve_X7_staysCost rfl rfl rfl (by decide +kernel) ⟨Nat.le_of_ble_eq_true rfl, Nat.le_of_ble_eq_true rfl⟩) (prW.preV (ci := 7) (q0 := 0) hPc hDc hK hN rfl rfl) rfl rfl hl.1 rfl (lv_room (Nat.le_of_ble_eq_true rfl)) dX7_serve_43 ⟨Nat.le_of_ble_eq_true rfl, Nat.le_of_ble_eq_true rfl⟩) hP hD hS hA [0, 1, 3] [2, 4, 5, 6] rfl rfl (by decide) (by decide) [4, 5, 0, 6, 1, 2, 3] (by decide) (fun _ => rfl) (fun r43 u43 H locs h hP hD hS => ?_)
            have hP : va_P (dC, dI) vwCl [(a_m, .inr (7, [.int mkd, .int mrt, .int mri, .int mca, .int mpr, .int men, .ref a_mp, .ref a_me, .int mth, .int mrq, .ref a_mq, .long mtr, .ref a_mr, .ref a_mo, .int y21_mos', .ref a_ml, .ref a_mt, .ref a_mf])), (a_mq, .inl (kA, 16, .inl mqF)), (a_mr, .inl (kA, 4, .inl mrF)), (a_mo, .inl (kA, 96, .inl y21_moF')), (a_ml, .inl (kA, 24, .inl mlF)), (a_mt, .inl (kA, 24, .inl mtF)), (a_mf, .inl (kA, 576, .inl mfF))] H := hP
            have hD : va_D A [(a_m, .inr (7, [.int mkd, .int mrt, .int mri, .int mca, .int mpr, .int men, .ref a_mp, .ref a_me, .int mth, .int mrq, .ref a_mq, .long mtr, .ref a_mr, .ref a_mo, .int y21_mos', .ref a_ml, .ref a_mt, .ref a_mf])), (a_mq, .inl (kA, 16, .inl mqF)), (a_mr, .inl (kA, 4, .inl mrF)), (a_mo, .inl (kA, 96, .inl y21_moF')), (a_ml, .inl (kA, 24, .inl mlF)), (a_mt, .inl (kA, 24, .inl mtF)), (a_mf, .inl (kA, 576, .inl mfF))] := hD
            refine lv_istore (lv' := [(5, .int r43), (0, .ref a_m), (1, .int p1), (2, .int v2_31), (3, .int v3_31), (4, .int v4_31)]) hx hb dX7_serve_46 hl (by decide) rfl (fun ls hl => ?_)
            refine lv_iconst (v := (1 : Int32)) hx hb dX7_serve_48 (by decide +kernel) ?_
            refine lv_istore (lv' := [(6, .int (1 : Int32)), (5, .int r43), (0, .ref a_m), (1, .int p1), (2, .int v2_31), (3, .int v3_31), (4, .int v4_31)]) hx hb dX7_serve_49 hl (by decide) rfl (fun ls hl => ?_)
            refine lv_iconst (v := (0 : Int32)) hx hb dX7_serve_51 (by decide +kernel) ?_
            refine lv_istore (lv' := [(7, .int (0 : Int32)), (6, .int (1 : Int32)), (5, .int r43), (0, .ref a_m), (1, .int p1), (2, .int v2_31), (3, .int v3_31), (4, .int v4_31)]) hx hb dX7_serve_52 hl (by decide) rfl (fun ls hl => ?_)
            obtain ⟨J54, ⟨n54, h⟩, hz54, hs54⟩ := h
            have hL54 : ∀ (n54 : Nat) (v6_54 : Int32) (v7_54 : Int32), J54 n54 v6_54 v7_54 → ∀ (H : Heap) (locs : List Loc) (ls : Array Slot), va_P (dC, dI) vwCl [(a_m, .inr (7, [.int mkd, .int mrt, .int mri, .int mca, .int mpr, .int men, .ref a_mp, .ref a_me, .int mth, .int mrq, .ref a_mq, .long mtr, .ref a_mr, .ref a_mo, .int y21_mos', .ref a_ml, .ref a_mt, .ref a_mf])), (a_mq, .inl (kA, 16, .inl mqF)), (a_mr, .inl (kA, 4, .inl mrF)), (a_mo, .inl (kA, 96, .inl y21_moF')), (a_ml, .inl (kA, 24, .inl mlF)), (a_mt, .inl (kA, 24, .inl mtF)), (a_mf, .inl (kA, 576, .inl mfF))] H → va_D A [(a_m, .inr (7, [.int mkd, .int mrt, .int mri, .int mca, .int mpr, .int men, .ref a_mp, .ref a_me, .int mth, .int mrq, .ref a_mq, .long mtr, .ref a_mr, .ref a_mo, .int y21_mos', .ref a_ml, .ref a_mt, .ref a_mf])), (a_mq, .inl (kA, 16, .inl mqF)), (a_mr, .inl (kA, 4, .inl mrF)), (a_mo, .inl (kA, 96, .inl y21_moF')), (a_ml, .inl (kA, 24, .inl mlF)), (a_mt, .inl (kA, 24, .inl mtF)), (a_mf, .inl (kA, 576, .inl mfF))] → va_S A s.heap H locs → lv_has ls 8 [(0, .ref a_m), (1, .int p1), (2, .int v2_31), (3, .int v3_31), (4, .int v4_31), (5, .int r43), (6, .int v6_54), (7, .int v7_54)] → W p l e (headSpec wsX7_serve rmX7_serve).room s m args below meth c H locs 0 0 Q (F0 m 54 ls []) := by
              intro n54
              induction n54 with
              | zero => intro v6_54 v7_54 h; exact absurd h (hz54 v6_54 v7_54)
              | succ n54 ih54 =>
                intro v6_54 v7_54 h H locs ls hP hD hS hl
                replace h := hs54 n54 v6_54 v7_54 h
                refine lv_iload hx hb dX7_serve_54 (lv_at hl 7 rfl) ?_
                refine lv_aload_n hx hb dX7_serve_56 rfl (lv_at hl 0 rfl) ?_
                refine va_get (D := (dC, dI)) (ci := 7) (v := .int mth) (C := RX7) (T := TX7) (N := 18) hx hb hts (fun _ h => List.mem_cons_of_mem _ (List.mem_append_right _ h)) hown hK hP 0 rfl rfl 8 (by decide) (hts (.fieldLink RX7 29 "RentOrBuyModel" "things" "I") (List.mem_cons_of_mem _ (List.mem_append_left _ (List.mem_of_getElem? (i := 1) rfl)))) (fun _ h9 => h9) rfl dX7_serve_57 ?_
                refine lv_icmp_ge (tgt := 98) hx hb dX7_serve_60 (by decide) (fun c60 => ?_) (fun c60 => ?_)
                · replace h := h.1 c60
                  refine lv_iload hx hb dX7_serve_98 (lv_at hl 6 rfl) ?_
                  obtain ⟨J109, hR109, h⟩ := h
                  have hJ109 : ∀ (t0_109 : Int32), J109 t0_109 → ∀ (H : Heap) (locs : List Loc) (ls : Array Slot), va_P (dC, dI) vwCl [(a_m, .inr (7, [.int mkd, .int mrt, .int mri, .int mca, .int mpr, .int men, .ref a_mp, .ref a_me, .int mth, .int mrq, .ref a_mq, .long mtr, .ref a_mr, .ref a_mo, .int y21_mos', .ref a_ml, .ref a_mt, .ref a_mf])), (a_mq, .inl (kA, 16, .inl mqF)), (a_mr, .inl (kA, 4, .inl mrF)), (a_mo, .inl (kA, 96, .inl y21_moF')), (a_ml, .inl (kA, 24, .inl mlF)), (a_mt, .inl (kA, 24, .inl mtF)), (a_mf, .inl (kA, 576, .inl mfF))] H → va_D A [(a_m, .inr (7, [.int mkd, .int mrt, .int mri, .int mca, .int mpr, .int men, .ref a_mp, .ref a_me, .int mth, .int mrq, .ref a_mq, .long mtr, .ref a_mr, .ref a_mo, .int y21_mos', .ref a_ml, .ref a_mt, .ref a_mf])), (a_mq, .inl (kA, 16, .inl mqF)), (a_mr, .inl (kA, 4, .inl mrF)), (a_mo, .inl (kA, 96, .inl y21_moF')), (a_ml, .inl (kA, 24, .inl mlF)), (a_mt, .inl (kA, 24, .inl mtF)), (a_mf, .inl (kA, 576, .inl mfF))] → va_S A s.heap H locs → lv_has ls 8 [(0, .ref a_m), (1, .int p1), (2, .int v2_31), (4, .int v4_31), (5, .int r43)] → W p l e (headSpec wsX7_serve rmX7_serve).room s m args below meth c H locs 0 0 Q (F0 m 109 ls [.int t0_109]) := by
                    intro t0_109 h H locs ls hP hD hS hl
                    replace h := hR109 t0_109 h
                    refine lv_istore_n (lv' := [(3, .int t0_109), (0, .ref a_m), (1, .int p1), (2, .int v2_31), (4, .int v4_31), (5, .int r43)]) hx hb dX7_serve_109 rfl hl (by decide) rfl (fun ls hl => ?_)
                    refine lv_iload_n hx hb dX7_serve_110 rfl (lv_at hl 3 rfl) ?_
                    obtain ⟨J126, hR126, h⟩ := h
                    have hJ126 : ∀ (t0_126 : Int32), J126 t0_126 → ∀ (H : Heap) (locs : List Loc) (ls : Array Slot), va_P (dC, dI) vwCl [(a_m, .inr (7, [.int mkd, .int mrt, .int mri, .int mca, .int mpr, .int men, .ref a_mp, .ref a_me, .int mth, .int mrq, .ref a_mq, .long mtr, .ref a_mr, .ref a_mo, .int y21_mos', .ref a_ml, .ref a_mt, .ref a_mf])), (a_mq, .inl (kA, 16, .inl mqF)), (a_mr, .inl (kA, 4, .inl mrF)), (a_mo, .inl (kA, 96, .inl y21_moF')), (a_ml, .inl (kA, 24, .inl mlF)), (a_mt, .inl (kA, 24, .inl mtF)), (a_mf, .inl (kA, 576, .inl mfF))] H → va_D A [(a_m, .inr (7, [.int mkd, .int mrt, .int mri, .int mca, .int mpr, .int men, .ref a_mp, .ref a_me, .int mth, .int mrq, .ref a_mq, .long mtr, .ref a_mr, .ref a_mo, .int y21_mos', .ref a_ml, .ref a_mt, .ref a_mf])), (a_mq, .inl (kA, 16, .inl mqF)), (a_mr, .inl (kA, 4, .inl mrF)), (a_mo, .inl (kA, 96, .inl y21_moF')), (a_ml, .inl (kA, 24, .inl mlF)), (a_mt, .inl (kA, 24, .inl mtF)), (a_mf, .inl (kA, 576, .inl mfF))] → va_S A s.heap H locs → lv_has ls 8 [(0, .ref a_m), (1, .int p1), (3, .int t0_109), (4, .int v4_31)] → W p l e (headSpec wsX7_serve rmX7_serve).room s m args below meth c H locs 0 0 Q (F0 m 126 ls [.int t0_126]) := by
                      intro t0_126 h H locs ls hP hD hS hl
                      replace h := hR126 t0_126 h
                      refine lv_istore_n (lv' := [(2, .int t0_126), (0, .ref a_m), (1, .int p1), (3, .int t0_109), (4, .int v4_31)]) hx hb dX7_serve_126 rfl hl (by decide) rfl (fun ls hl => ?_)
                      refine lv_iinc (v := (v4_31 + (1 : Int32))) (lv' := [(4, .int (v4_31 + (1 : Int32))), (2, .int t0_126), (0, .ref a_m), (1, .int p1), (3, .int t0_109)]) hx hb dX7_serve_127 hl (k := 4) rfl (by rfl) (by decide) rfl (fun ls hl => ?_)
                      refine lv_goto (tgt := 31) hx hb dX7_serve_130 (by decide) ?_
                      exact ih31 t0_126 t0_109 (v4_31 + (1 : Int32)) h _ _ _ hP hD hS (lv_sub hl [2, 3, 1, 4, 0] rfl)
                    obtain ⟨J120, hR120, h⟩ := h
                    have hJ120 : J120 → ∀ (H : Heap) (locs : List Loc) (ls : Array Slot), va_P (dC, dI) vwCl [(a_m, .inr (7, [.int mkd, .int mrt, .int mri, .int mca, .int mpr, .int men, .ref a_mp, .ref a_me, .int mth, .int mrq, .ref a_mq, .long mtr, .ref a_mr, .ref a_mo, .int y21_mos', .ref a_ml, .ref a_mt, .ref a_mf])), (a_mq, .inl (kA, 16, .inl mqF)), (a_mr, .inl (kA, 4, .inl mrF)), (a_mo, .inl (kA, 96, .inl y21_moF')), (a_ml, .inl (kA, 24, .inl mlF)), (a_mt, .inl (kA, 24, .inl mtF)), (a_mf, .inl (kA, 576, .inl mfF))] H → va_D A [(a_m, .inr (7, [.int mkd, .int mrt, .int mri, .int mca, .int mpr, .int men, .ref a_mp, .ref a_me, .int mth, .int mrq, .ref a_mq, .long mtr, .ref a_mr, .ref a_mo, .int y21_mos', .ref a_ml, .ref a_mt, .ref a_mf])), (a_mq, .inl (kA, 16, .inl mqF)), (a_mr, .inl (kA, 4, .inl mrF)), (a_mo, .inl (kA, 96, .inl y21_moF')), (a_ml, .inl (kA, 24, .inl mlF)), (a_mt, .inl (kA, 24, .inl mtF)), (a_mf, .inl (kA, 576, .inl mfF))] → va_S A s.heap H locs → lv_has ls 8 [(0, .ref a_m), (1, .int p1), (3, .int t0_109), (4, .int v4_31), (5, .int r43)] → W p l e (headSpec wsX7_serve rmX7_serve).room s m args below meth c H locs 0 0 Q (F0 m 120 ls []) := by
                      intro  h H locs ls hP hD hS hl
                      replace h := hR120  h
                      refine lv_iload hx hb dX7_serve_120 (lv_at hl 4 rfl) ?_
                      refine lv_goto (tgt := 126) hx hb dX7_serve_122 (by decide) ?_
                      exact hJ126 r43 h _ _ _ hP hD hS (lv_sub hl [0, 1, 2, 3] rfl)
                    refine lv_if_lt (tgt := 120) hx hb dX7_serve_111 (by decide) (fun c111 => ?_) (fun c111 => ?_)
                    · replace h := h.1 c111
                      exact hJ120 h _ _ _ hP hD hS (lv_sub hl [1, 2, 0, 4, 5] rfl)
                    · replace h := h.2 c111
                      refine lv_iload hx hb dX7_serve_114 (lv_at hl 5 rfl) ?_
                      refine lv_iload_n hx hb dX7_serve_116 rfl (lv_at hl 3 rfl) ?_
                      refine lv_icmp_ge (tgt := 125) hx hb dX7_serve_117 (by decide) (fun c117 => ?_) (fun c117 => ?_)
                      · replace h := h.1 c117
                        refine lv_iload_n hx hb dX7_serve_125 rfl (lv_at hl 3 rfl) ?_
                        exact hJ126 v2_31 h _ _ _ hP hD hS (lv_sub hl [1, 2, 0, 4] rfl)
                      · replace h := h.2 c117
                        exact hJ120 h _ _ _ hP hD hS (lv_sub hl [1, 2, 0, 4, 5] rfl)
                  refine lv_if_eq (tgt := 108) hx hb dX7_serve_100 (by decide) (fun c100 => ?_) (fun c100 => ?_)
                  · replace h := h.1 c100
                    refine lv_iload_n hx hb dX7_serve_108 rfl (lv_at hl 3 rfl) ?_
                    exact hJ109 v3_31 h _ _ _ hP hD hS (lv_sub hl [0, 1, 2, 4, 5] rfl)
                  · replace h := h.2 c100
                    refine lv_iload hx hb dX7_serve_103 (lv_at hl 5 rfl) ?_
                    refine lv_goto (tgt := 109) hx hb dX7_serve_105 (by decide) ?_
                    exact hJ109 r43 h _ _ _ hP hD hS (lv_sub hl [0, 1, 2, 4, 5] rfl)
                · replace h := h.2 c60
                  refine lv_iload hx hb dX7_serve_63 (lv_at hl 6 rfl) ?_
                  obtain ⟨J90, hR90, h⟩ := h
                  have hJ90 : ∀ (t0_90 : Int32), J90 t0_90 → ∀ (H : Heap) (locs : List Loc) (ls : Array Slot), va_P (dC, dI) vwCl [(a_m, .inr (7, [.int mkd, .int mrt, .int mri, .int mca, .int mpr, .int men, .ref a_mp, .ref a_me, .int mth, .int mrq, .ref a_mq, .long mtr, .ref a_mr, .ref a_mo, .int y21_mos', .ref a_ml, .ref a_mt, .ref a_mf])), (a_mq, .inl (kA, 16, .inl mqF)), (a_mr, .inl (kA, 4, .inl mrF)), (a_mo, .inl (kA, 96, .inl y21_moF')), (a_ml, .inl (kA, 24, .inl mlF)), (a_mt, .inl (kA, 24, .inl mtF)), (a_mf, .inl (kA, 576, .inl mfF))] H → va_D A [(a_m, .inr (7, [.int mkd, .int mrt, .int mri, .int mca, .int mpr, .int men, .ref a_mp, .ref a_me, .int mth, .int mrq, .ref a_mq, .long mtr, .ref a_mr, .ref a_mo, .int y21_mos', .ref a_ml, .ref a_mt, .ref a_mf])), (a_mq, .inl (kA, 16, .inl mqF)), (a_mr, .inl (kA, 4, .inl mrF)), (a_mo, .inl (kA, 96, .inl y21_moF')), (a_ml, .inl (kA, 24, .inl mlF)), (a_mt, .inl (kA, 24, .inl mtF)), (a_mf, .inl (kA, 576, .inl mfF))] → va_S A s.heap H locs → lv_has ls 8 [(0, .ref a_m), (1, .int p1), (2, .int v2_31), (3, .int v3_31), (4, .int v4_31), (5, .int r43), (7, .int v7_54)] → W p l e (headSpec wsX7_serve rmX7_serve).room s m args below meth c H locs 0 0 Q (F0 m 90 ls [.int t0_90]) := by
                    intro t0_90 h H locs ls hP hD hS hl
                    replace h := hR90 t0_90 h
                    refine lv_istore (lv' := [(6, .int t0_90), (0, .ref a_m), (1, .int p1), (2, .int v2_31), (3, .int v3_31), (4, .int v4_31), (5, .int r43), (7, .int v7_54)]) hx hb dX7_serve_90 hl (by decide) rfl (fun ls hl => ?_)
                    refine lv_iinc (v := (v7_54 + (1 : Int32))) (lv' := [(7, .int (v7_54 + (1 : Int32))), (6, .int t0_90), (0, .ref a_m), (1, .int p1), (2, .int v2_31), (3, .int v3_31), (4, .int v4_31), (5, .int r43)]) hx hb dX7_serve_92 hl (k := 7) rfl (by rfl) (by decide) rfl (fun ls hl => ?_)
                    refine lv_goto (tgt := 54) hx hb dX7_serve_95 (by decide) ?_
                    exact ih54 t0_90 (v7_54 + (1 : Int32)) h _ _ _ hP hD hS (lv_sub hl [2, 3, 4, 5, 6, 7, 1, 0] rfl)
                  obtain ⟨J89, hR89, h⟩ := h
                  have hJ89 : J89 → ∀ (H : Heap) (locs : List Loc) (ls : Array Slot), va_P (dC, dI) vwCl [(a_m, .inr (7, [.int mkd, .int mrt, .int mri, .int mca, .int mpr, .int men, .ref a_mp, .ref a_me, .int mth, .int mrq, .ref a_mq, .long mtr, .ref a_mr, .ref a_mo, .int y21_mos', .ref a_ml, .ref a_mt, .ref a_mf])), (a_mq, .inl (kA, 16, .inl mqF)), (a_mr, .inl (kA, 4, .inl mrF)), (a_mo, .inl (kA, 96, .inl y21_moF')), (a_ml, .inl (kA, 24, .inl mlF)), (a_mt, .inl (kA, 24, .inl mtF)), (a_mf, .inl (kA, 576, .inl mfF))] H → va_D A [(a_m, .inr (7, [.int mkd, .int mrt, .int mri, .int mca, .int mpr, .int men, .ref a_mp, .ref a_me, .int mth, .int mrq, .ref a_mq, .long mtr, .ref a_mr, .ref a_mo, .int y21_mos', .ref a_ml, .ref a_mt, .ref a_mf])), (a_mq, .inl (kA, 16, .inl mqF)), (a_mr, .inl (kA, 4, .inl mrF)), (a_mo, .inl (kA, 96, .inl y21_moF')), (a_ml, .inl (kA, 24, .inl mlF)), (a_mt, .inl (kA, 24, .inl mtF)), (a_mf, .inl (kA, 576, .inl mfF))] → va_S A s.heap H locs → lv_has ls 8 [(0, .ref a_m), (1, .int p1), (2, .int v2_31), (3, .int v3_31), (4, .int v4_31), (5, .int r43), (7, .int v7_54)] → W p l e (headSpec wsX7_serve rmX7_serve).room s m args below meth c H locs 0 0 Q (F0 m 89 ls []) := by
                    intro  h H locs ls hP hD hS hl
                    replace h := hR89  h
                    refine lv_iconst (v := (0 : Int32)) hx hb dX7_serve_89 (by decide +kernel) ?_
                    exact hJ90 (0 : Int32) h _ _ _ hP hD hS (lv_sub hl [0, 1, 2, 3, 4, 5, 6] rfl)
                  refine lv_if_eq (tgt := 89) hx hb dX7_serve_65 (by decide) (fun c65 => ?_) (fun c65 => ?_)
                  · replace h := h.1 c65
                    exact hJ89 h _ _ _ hP hD hS (lv_sub hl [0, 1, 2, 3, 4, 5, 7] rfl)
                  · replace h := h.2 c65
                    refine lv_aload_n hx hb dX7_serve_68 rfl (lv_at hl 0 rfl) ?_
                    refine va_get (D := (dC, dI)) (ci := 7) (v := .ref a_mo) (C := RX7) (T := TX7) (N := 18) hx hb hts (fun _ h => List.mem_cons_of_mem _ (List.mem_append_right _ h)) hown hK hP 0 rfl rfl 13 (by decide) (hts (.fieldLink RX7 38 "RentOrBuyModel" "order" "[I") (List.mem_cons_of_mem _ (List.mem_append_left _ (List.mem_of_getElem? (i := 2) rfl)))) (fun _ h9 => h9) rfl dX7_serve_69 ?_
                    refine lv_iconst (v := (4 : Int32)) hx hb dX7_serve_72 (by decide +kernel) ?_
                    refine lv_iload hx hb dX7_serve_73 (lv_at hl 4 rfl) ?_
                    refine lv_imul hx hb dX7_serve_75 ?_
                    refine lv_iload hx hb dX7_serve_76 (lv_at hl 7 rfl) ?_
                    refine lv_iadd hx hb dX7_serve_78 ?_
                    obtain ⟨hi79, h⟩ := h
                    refine va_iald hx hb hK hP 3 0 rfl rfl hi79 dX7_serve_79 ?_
                    refine lv_iload hx hb dX7_serve_80 (lv_at hl 7 rfl) ?_
                    refine lv_icmp_ne (tgt := 89) hx hb dX7_serve_82 (by decide) (fun c82 => ?_) (fun c82 => ?_)
                    · replace h := h.1 c82
                      exact hJ89 h _ _ _ hP hD hS (lv_sub hl [0, 1, 2, 3, 4, 5, 7] rfl)
                    · replace h := h.2 c82
                      refine lv_iconst (v := (1 : Int32)) hx hb dX7_serve_85 (by decide +kernel) ?_
                      refine lv_goto (tgt := 90) hx hb dX7_serve_86 (by decide) ?_
                      exact hJ90 (1 : Int32) h _ _ _ hP hD hS (lv_sub hl [0, 1, 2, 3, 4, 5, 7] rfl)
            exact hL54 n54 (1 : Int32) (0 : Int32) h _ _ _ hP hD hS (lv_sub hl [3, 4, 5, 6, 7, 2, 1, 0] rfl)
      exact hL31 n31 (-1 : Int32) (0 : Int32) (0 : Int32) h _ _ _ hP hD hS (lv_sub hl [3, 4, 2, 1, 0] rfl)
    · replace h := h.2 c12
      refine lv_aload_n hx hb dX7_serve_15 rfl (lv_at hl 0 rfl) ?_
      have hPc := hP.sub (ws' := [(a_m, .inr (7, [.int mkd, .int mrt, .int mri, .int mca, .int mpr, .int men, .ref a_mp, .ref a_me, .int mth, .int mrq, .ref a_mq, .long mtr, .ref a_mr, .ref a_mo, .int mos, .ref a_ml, .ref a_mt, .ref a_mf])), (a_mq, .inl (kA, 16, .inl mqF)), (a_mr, .inl (kA, 4, .inl mrF))]) [0, 1, 2] rfl
      have hDc := hD.sub (ws' := [(a_m, .inr (7, [.int mkd, .int mrt, .int mri, .int mca, .int mpr, .int men, .ref a_mp, .ref a_me, .int mth, .int mrq, .ref a_mq, .long mtr, .ref a_mr, .ref a_mo, .int mos, .ref a_ml, .ref a_mt, .ref a_mf])), (a_mq, .inl (kA, 16, .inl mqF)), (a_mr, .inl (kA, 4, .inl mrF))]) [0, 1, 2] (by decide) rfl
      refine fr_i (wr := [(a_mo, .inl (kA, 96, .inl moF)), (a_ml, .inl (kA, 24, .inl mlF)), (a_mt, .inl (kA, 24, .inl mtF)), (a_mf, .inl (kA, 576, .inl mfF))]) (WN := fun (u16 : (Nat → Int32)) => [(a_m, .inr (7, [.int mkd, .int mrt, .int mri, .int mca, .int mpr, .int men, .ref a_mp, .ref a_me, .int mth, .int mrq, .ref a_mq, .long mtr, .ref a_mr, .ref a_mo, .int mos, .ref a_ml, .ref a_mt, .ref a_mf])), (a_mq, .inl (kA, 16, .inl mqF)), (a_mr, .inl (kA, 4, .inl u16)), (a_mo, .inl (kA, 96, .inl moF)), (a_ml, .inl (kA, 24, .inl mlF)), (a_mt, .inl (kA, 24, .inl mtF)), (a_mf, .inl (kA, 576, .inl mfF))]) (va_runV (As := []) (rest := []) ⟨hx, hb, hml, hown, hts⟩ (c_X7_frontCost l dC dI kA a_m a_mq a_mr a_mp a_me a_mo a_ml a_mt a_mf H.size mkd mrt mri mca mpr men mth mrq mtr mos mqF mrF _ h) (cwV 0 hts gX7_serve_X7_frontCost rfl rfl rfl (by decide +kernel) ⟨Nat.le_of_ble_eq_true rfl, Nat.le_of_ble_eq_true rfl⟩) (prW.preV (ci := 7) (q0 := 0) hPc hDc hK hN rfl rfl) rfl rfl hl.1 rfl (lv_room (Nat.le_of_ble_eq_true rfl)) dX7_serve_16 ⟨Nat.le_of_ble_eq_true rfl, Nat.le_of_ble_eq_true rfl⟩) hP hD hS hA [0, 1, 2] [3, 4, 5, 6] rfl rfl (by decide) (by decide) [4, 5, 6, 0, 1, 2, 3] (by decide) (fun _ => rfl) (fun r16 u16 H locs h hP hD hS => ?_)
      obtain ⟨y16_mrF', rfl⟩ : ∃ z, z = u16 := ⟨_, rfl⟩
      have hP : va_P (dC, dI) vwCl [(a_m, .inr (7, [.int mkd, .int mrt, .int mri, .int mca, .int mpr, .int men, .ref a_mp, .ref a_me, .int mth, .int mrq, .ref a_mq, .long mtr, .ref a_mr, .ref a_mo, .int mos, .ref a_ml, .ref a_mt, .ref a_mf])), (a_mq, .inl (kA, 16, .inl mqF)), (a_mr, .inl (kA, 4, .inl y16_mrF')), (a_mo, .inl (kA, 96, .inl moF)), (a_ml, .inl (kA, 24, .inl mlF)), (a_mt, .inl (kA, 24, .inl mtF)), (a_mf, .inl (kA, 576, .inl mfF))] H := hP
      have hD : va_D A [(a_m, .inr (7, [.int mkd, .int mrt, .int mri, .int mca, .int mpr, .int men, .ref a_mp, .ref a_me, .int mth, .int mrq, .ref a_mq, .long mtr, .ref a_mr, .ref a_mo, .int mos, .ref a_ml, .ref a_mt, .ref a_mf])), (a_mq, .inl (kA, 16, .inl mqF)), (a_mr, .inl (kA, 4, .inl y16_mrF')), (a_mo, .inl (kA, 96, .inl moF)), (a_ml, .inl (kA, 24, .inl mlF)), (a_mt, .inl (kA, 24, .inl mtF)), (a_mf, .inl (kA, 576, .inl mfF))] := hD
      rw [hQ]
      exact rt_i (mos, y16_mrF', moF, mlF, mtF, mfF) hx hb hr hlocks h hP hD hS dX7_serve_19
  · replace h := h.2 c6
    refine lv_iconst (v := (-1 : Int32)) hx hb dX7_serve_9 (by decide +kernel) ?_
    rw [hQ]
    exact rt_i (mos, mrF, moF, mlF, mtF, mfF) hx hb hr hlocks h hP hD hS dX7_serve_10

/-- RentOrBuyModel.share -/
def rmX7_share : Room := { frames := 2, cells := 0, slots := 0, locals := 43 }
set_option maxHeartbeats 4000000 in
set_option maxRecDepth 100000 in
theorem c_X7_share (l : Launch) (dC : Nat → ClassId) (dI : Nat → Nat → Nat) (kA : ClassId) (a_m a_mp a_me a_mq a_mr a_mo a_ml a_mt a_mf : Nat) (sz : Nat) (mkd : Int32) (mrt : Int32) (mri : Int32) (mca : Int32) (mpr : Int32) (men : Int32) (mth : Int32) (mrq : Int32) (mtr : Int64) (mos : Int32) (mpF : Nat → Int32) (meF : Nat → Int32) (p1 : Int32) (p2 : Int32) (p3 : Int32) (K : Int32 → (Nat → Int32) → (Nat → Int32) → Prop) (hg : g_X7_share mkd mrt mri mca mpr men mth mrq mtr mos mpF meF p1 p2 p3 K) : Met l yX7_share wsX7_share rmX7_share (va_Pc [.ref a_m, .int p1, .int p2, .int p3] (prW (dC, dI) kA sz [(a_m, .inr (7, [.int mkd, .int mrt, .int mri, .int mca, .int mpr, .int men, .ref a_mp, .ref a_me, .int mth, .int mrq, .ref a_mq, .long mtr, .ref a_mr, .ref a_mo, .int mos, .ref a_ml, .ref a_mt, .ref a_mf])), (a_mp, .inl (kA, 42, .inl mpF)), (a_me, .inl (kA, 42, .inl meF))])) (va_Qi (fun (r : Int32) (u : (Nat → Int32) × (Nat → Int32)) => K r u.1 u.2) (poW (dC, dI) (va_A [(a_m, .inr (7, [.int mkd, .int mrt, .int mri, .int mca, .int mpr, .int men, .ref a_mp, .ref a_me, .int mth, .int mrq, .ref a_mq, .long mtr, .ref a_mr, .ref a_mo, .int mos, .ref a_ml, .ref a_mt, .ref a_mf])), (a_mp, .inl (kA, 42, .inl mpF)), (a_me, .inl (kA, 42, .inl meF))] sz) (fun (u : (Nat → Int32) × (Nat → Int32)) => [(a_m, .inr (7, [.int mkd, .int mrt, .int mri, .int mca, .int mpr, .int men, .ref a_mp, .ref a_me, .int mth, .int mrq, .ref a_mq, .long mtr, .ref a_mr, .ref a_mo, .int mos, .ref a_ml, .ref a_mt, .ref a_mf])), (a_mp, .inl (kA, 42, .inl u.1)), (a_me, .inl (kA, 42, .inl u.2))])) (va_A [(a_m, .inr (7, [.int mkd, .int mrt, .int mri, .int mca, .int mpr, .int men, .ref a_mp, .ref a_me, .int mth, .int mrq, .ref a_mq, .long mtr, .ref a_mr, .ref a_mo, .int mos, .ref a_ml, .ref a_mt, .ref a_mf])), (a_mp, .inl (kA, 42, .inl mpF)), (a_me, .inl (kA, 42, .inl meF))] sz)) 0 0 (va_A [(a_m, .inr (7, [.int mkd, .int mrt, .int mri, .int mca, .int mpr, .int men, .ref a_mp, .ref a_me, .int mth, .int mrq, .ref a_mq, .long mtr, .ref a_mr, .ref a_mo, .int mos, .ref a_ml, .ref a_mt, .ref a_mf])), (a_mp, .inl (kA, 42, .inl mpF)), (a_me, .inl (kA, 42, .inl meF))] sz) := by
  refine Met.ofW (cc := cX7_share) (maxL := 5) (ret := (some .int)) (by decide) rfl ?_
  intro p e s m args below meth c s₁ B hml hv
  obtain ⟨hargs, hsz, hP, hK, hD0, hN⟩ := hv
  have hx := B.exec
  have hb := B.bytes
  have hr := B.returns
  have hts := atoms_spec (ws := wsX7_share) B.pre
  have hown : s.vm.findClass RX7 = some m.cls := findClass_of_methodNamed B.named
  have hlocks := B.notSynchronized
  subst hsz
  have hD := hD0.self (sz := s.heap.size)
  generalize hAe : va_A [(a_m, .inr (7, [.int mkd, .int mrt, .int mri, .int mca, .int mpr, .int men, .ref a_mp, .ref a_me, .int mth, .int mrq, .ref a_mq, .long mtr, .ref a_mr, .ref a_mo, .int mos, .ref a_ml, .ref a_mt, .ref a_mf])), (a_mp, .inl (kA, 42, .inl mpF)), (a_me, .inl (kA, 42, .inl meF))] s.heap.size = A at hD ⊢
  have hA : ∀ q : Nat, s.heap.size ≤ q → A q := fun q h => by rw [← hAe]; exact Or.inr h
  have hS : va_S A s.heap s.heap [] := va_S.rf
  obtain ⟨Q, hQ⟩ : ∃ Q : State → Prop, Q = MQ below (va_Qi (fun (r : Int32) (u : (Nat → Int32) × (Nat → Int32)) => K r u.1 u.2) (poW (dC, dI) A (fun (u : (Nat → Int32) × (Nat → Int32)) => [(a_m, .inr (7, [.int mkd, .int mrt, .int mri, .int mca, .int mpr, .int men, .ref a_mp, .ref a_me, .int mth, .int mrq, .ref a_mq, .long mtr, .ref a_mr, .ref a_mo, .int mos, .ref a_ml, .ref a_mt, .ref a_mf])), (a_mp, .inl (kA, 42, .inl u.1)), (a_me, .inl (kA, 42, .inl u.2))])) A) args s 0 0 A := ⟨_, rfl⟩
  rw [← hQ]
  have hP : va_P (dC, dI) vwCl [(a_m, .inr (7, [.int mkd, .int mrt, .int mri, .int mca, .int mpr, .int men, .ref a_mp, .ref a_me, .int mth, .int mrq, .ref a_mq, .long mtr, .ref a_mr, .ref a_mo, .int mos, .ref a_ml, .ref a_mt, .ref a_mf])), (a_mp, .inl (kA, 42, .inl mpF)), (a_me, .inl (kA, 42, .inl meF))] s.heap := hP
  refine en_ok hargs (Nat.le_of_ble_eq_true rfl) (fun ls hl => ?_)
  have hl : lv_has ls 5 [(0, .ref a_m), (1, .int p1), (2, .int p2), (3, .int p3)] := hl
  have h := hg
  unfold g_X7_share at h
  refine lv_iload_n hx hb dX7_share_0 rfl (lv_at hl 1 rfl) ?_
  refine lv_iconst (v := (0 : Int32)) hx hb dX7_share_1 (by decide +kernel) ?_
  refine lv_iconst (v := (1 : Int32)) hx hb dX7_share_2 (by decide +kernel) ?_
  have hPc := hP.sub (ws' := []) [] rfl
  have hDc := hD.sub (ws' := []) [] (by decide) rfl
  refine fr_i (wr := [(a_m, .inr (7, [.int mkd, .int mrt, .int mri, .int mca, .int mpr, .int men, .ref a_mp, .ref a_me, .int mth, .int mrq, .ref a_mq, .long mtr, .ref a_mr, .ref a_mo, .int mos, .ref a_ml, .ref a_mt, .ref a_mf])), (a_mp, .inl (kA, 42, .inl mpF)), (a_me, .inl (kA, 42, .inl meF))]) (WN := fun (u3 : Unit) => [(a_m, .inr (7, [.int mkd, .int mrt, .int mri, .int mca, .int mpr, .int men, .ref a_mp, .ref a_me, .int mth, .int mrq, .ref a_mq, .long mtr, .ref a_mr, .ref a_mo, .int mos, .ref a_ml, .ref a_mt, .ref a_mf])), (a_mp, .inl (kA, 42, .inl mpF)), (a_me, .inl (kA, 42, .inl meF))]) (va_runS (As := [.int p1, .int (0 : Int32), .int (1 : Int32)]) (rest := []) ⟨hx, hb, hml, hown, hts⟩ (c_X7_in l dC dI kA s.heap.size p1 (0 : Int32) (1 : Int32) _ h) (va_cwS 3 hts gX7_share_X7_in rfl rfl rfl (by decide +kernel) ⟨Nat.le_of_ble_eq_true rfl, Nat.le_of_ble_eq_true rfl⟩) (prW.preS hPc hDc hK hN) rfl rfl hl.1 rfl (lv_room (Nat.le_of_ble_eq_true rfl)) dX7_share_3 ⟨Nat.le_of_ble_eq_true rfl, Nat.le_of_ble_eq_true rfl⟩) hP hD hS hA [] [0, 1, 2] rfl rfl (by decide) (by decide) [0, 1, 2] (by decide) (fun _ => rfl) (fun r3 u3 H locs h hP hD hS => ?_)
  have hP : va_P (dC, dI) vwCl [(a_m, .inr (7, [.int mkd, .int mrt, .int mri, .int mca, .int mpr, .int men, .ref a_mp, .ref a_me, .int mth, .int mrq, .ref a_mq, .long mtr, .ref a_mr, .ref a_mo, .int mos, .ref a_ml, .ref a_mt, .ref a_mf])), (a_mp, .inl (kA, 42, .inl mpF)), (a_me, .inl (kA, 42, .inl meF))] H := hP
  have hD : va_D A [(a_m, .inr (7, [.int mkd, .int mrt, .int mri, .int mca, .int mpr, .int men, .ref a_mp, .ref a_me, .int mth, .int mrq, .ref a_mq, .long mtr, .ref a_mr, .ref a_mo, .int mos, .ref a_ml, .ref a_mt, .ref a_mf])), (a_mp, .inl (kA, 42, .inl mpF)), (a_me, .inl (kA, 42, .inl meF))] := hD
  refine lv_if_eq (tgt := 42) hx hb dX7_share_6 (by decide) (fun c6 => ?_) (fun c6 => ?_)
  · replace h := h.1 c6
    refine lv_iconst (v := (-1 : Int32)) hx hb dX7_share_42 (by decide +kernel) ?_
    rw [hQ]
    exact rt_i (mpF, meF) hx hb hr hlocks h hP hD hS dX7_share_43
  · replace h := h.2 c6
    refine lv_iload_n hx hb dX7_share_9 rfl (lv_at hl 1 rfl) ?_
    obtain ⟨J32, hR32, h⟩ := h
    have hJ32 : J32 → ∀ (H : Heap) (locs : List Loc) (ls : Array Slot), va_P (dC, dI) vwCl [(a_m, .inr (7, [.int mkd, .int mrt, .int mri, .int mca, .int mpr, .int men, .ref a_mp, .ref a_me, .int mth, .int mrq, .ref a_mq, .long mtr, .ref a_mr, .ref a_mo, .int mos, .ref a_ml, .ref a_mt, .ref a_mf])), (a_mp, .inl (kA, 42, .inl mpF)), (a_me, .inl (kA, 42, .inl meF))] H → va_D A [(a_m, .inr (7, [.int mkd, .int mrt, .int mri, .int mca, .int mpr, .int men, .ref a_mp, .ref a_me, .int mth, .int mrq, .ref a_mq, .long mtr, .ref a_mr, .ref a_mo, .int mos, .ref a_ml, .ref a_mt, .ref a_mf])), (a_mp, .inl (kA, 42, .inl mpF)), (a_me, .inl (kA, 42, .inl meF))] → va_S A s.heap H locs → lv_has ls 5 [(0, .ref a_m), (1, .int p1), (2, .int p2), (3, .int p3)] → W p l e (headSpec wsX7_share rmX7_share).room s m args below meth c H locs 0 0 Q (F0 m 32 ls []) := by
      intro  h H locs ls hP hD hS hl
      replace h := hR32  h
      refine lv_iload_n hx hb dX7_share_32 rfl (lv_at hl 3 rfl) ?_
      refine lv_iconst (v := (0 : Int32)) hx hb dX7_share_33 (by decide +kernel) ?_
      refine lv_bipush (v := (9 : Int32)) hx hb dX7_share_34 (by decide +kernel) ?_
      have hPc := hP.sub (ws' := []) [] rfl
      have hDc := hD.sub (ws' := []) [] (by decide) rfl
      refine fr_i (wr := [(a_m, .inr (7, [.int mkd, .int mrt, .int mri, .int mca, .int mpr, .int men, .ref a_mp, .ref a_me, .int mth, .int mrq, .ref a_mq, .long mtr, .ref a_mr, .ref a_mo, .int mos, .ref a_ml, .ref a_mt, .ref a_mf])), (a_mp, .inl (kA, 42, .inl mpF)), (a_me, .inl (kA, 42, .inl meF))]) (WN := fun (u36 : Unit) => [(a_m, .inr (7, [.int mkd, .int mrt, .int mri, .int mca, .int mpr, .int men, .ref a_mp, .ref a_me, .int mth, .int mrq, .ref a_mq, .long mtr, .ref a_mr, .ref a_mo, .int mos, .ref a_ml, .ref a_mt, .ref a_mf])), (a_mp, .inl (kA, 42, .inl mpF)), (a_me, .inl (kA, 42, .inl meF))]) (va_runS (As := [.int p3, .int (0 : Int32), .int (9 : Int32)]) (rest := []) ⟨hx, hb, hml, hown, hts⟩ (c_X7_in l dC dI kA H.size p3 (0 : Int32) (9 : Int32) _ h) (va_cwS 3 hts gX7_share_X7_in rfl rfl rfl (by decide +kernel) ⟨Nat.le_of_ble_eq_true rfl, Nat.le_of_ble_eq_true rfl⟩) (prW.preS hPc hDc hK hN) rfl rfl hl.1 rfl (lv_room (Nat.le_of_ble_eq_true rfl)) dX7_share_36 ⟨Nat.le_of_ble_eq_true rfl, Nat.le_of_ble_eq_true rfl⟩) hP hD hS hA [] [0, 1, 2] rfl rfl (by decide) (by decide) [0, 1, 2] (by decide) (fun _ => rfl) (fun r36 u36 H locs h hP hD hS => ?_)
      have hP : va_P (dC, dI) vwCl [(a_m, .inr (7, [.int mkd, .int mrt, .int mri, .int mca, .int mpr, .int men, .ref a_mp, .ref a_me, .int mth, .int mrq, .ref a_mq, .long mtr, .ref a_mr, .ref a_mo, .int mos, .ref a_ml, .ref a_mt, .ref a_mf])), (a_mp, .inl (kA, 42, .inl mpF)), (a_me, .inl (kA, 42, .inl meF))] H := hP
      have hD : va_D A [(a_m, .inr (7, [.int mkd, .int mrt, .int mri, .int mca, .int mpr, .int men, .ref a_mp, .ref a_me, .int mth, .int mrq, .ref a_mq, .long mtr, .ref a_mr, .ref a_mo, .int mos, .ref a_ml, .ref a_mt, .ref a_mf])), (a_mp, .inl (kA, 42, .inl mpF)), (a_me, .inl (kA, 42, .inl meF))] := hD
      refine lv_if_ne (tgt := 44) hx hb dX7_share_39 (by decide) (fun c39 => ?_) (fun c39 => ?_)
      · replace h := h.1 c39
        refine lv_iload_n hx hb dX7_share_44 rfl (lv_at hl 1 rfl) ?_
        obtain ⟨J63, hR63, h⟩ := h
        have hJ63 : ∀ (t0_63 : Int32), J63 t0_63 → ∀ (H : Heap) (locs : List Loc) (ls : Array Slot), va_P (dC, dI) vwCl [(a_m, .inr (7, [.int mkd, .int mrt, .int mri, .int mca, .int mpr, .int men, .ref a_mp, .ref a_me, .int mth, .int mrq, .ref a_mq, .long mtr, .ref a_mr, .ref a_mo, .int mos, .ref a_ml, .ref a_mt, .ref a_mf])), (a_mp, .inl (kA, 42, .inl mpF)), (a_me, .inl (kA, 42, .inl meF))] H → va_D A [(a_m, .inr (7, [.int mkd, .int mrt, .int mri, .int mca, .int mpr, .int men, .ref a_mp, .ref a_me, .int mth, .int mrq, .ref a_mq, .long mtr, .ref a_mr, .ref a_mo, .int mos, .ref a_ml, .ref a_mt, .ref a_mf])), (a_mp, .inl (kA, 42, .inl mpF)), (a_me, .inl (kA, 42, .inl meF))] → va_S A s.heap H locs → lv_has ls 5 [(0, .ref a_m), (1, .int p1), (2, .int p2), (3, .int p3)] → W p l e (headSpec wsX7_share rmX7_share).room s m args below meth c H locs 0 0 Q (F0 m 63 ls [.int t0_63]) := by
          intro t0_63 h H locs ls hP hD hS hl
          replace h := hR63 t0_63 h
          refine lv_istore (lv' := [(4, .int t0_63), (0, .ref a_m), (1, .int p1), (2, .int p2), (3, .int p3)]) hx hb dX7_share_63 hl (by decide) rfl (fun ls hl => ?_)
          refine lv_iload_n hx hb dX7_share_65 rfl (lv_at hl 2 rfl) ?_
          refine lv_if_ne (tgt := 79) hx hb dX7_share_66 (by decide) (fun c66 => ?_) (fun c66 => ?_)
          · replace h := h.1 c66
            refine lv_aload_n hx hb dX7_share_79 rfl (lv_at hl 1 rfl) ?_
            refine va_get (D := (dC, dI)) (ci := 7) (v := .ref a_me) (C := RX7) (T := TX7) (N := 18) hx hb hts (fun _ h => List.mem_cons_of_mem _ (List.mem_append_right _ h)) hown hK hP 0 rfl rfl 7 (by decide) (hts (.fieldLink RX7 26 "RentOrBuyModel" "endShare" "[I") (List.mem_cons_of_mem _ (List.mem_append_left _ (List.mem_of_getElem? (i := 1) rfl)))) (fun _ h9 => h9) rfl dX7_share_80 ?_
            refine lv_iload_n hx hb dX7_share_83 rfl (lv_at hl 3 rfl) ?_
            refine lv_iload_n hx hb dX7_share_84 rfl (lv_at hl 4 rfl) ?_
            obtain ⟨hi85, h⟩ := h
            refine va_iast hx hb hK hP hD hS 2 0 rfl rfl hi85 dX7_share_85 (fun H locs hP hD hS => ?_)
            have hP : va_P (dC, dI) vwCl [(a_m, .inr (7, [.int mkd, .int mrt, .int mri, .int mca, .int mpr, .int men, .ref a_mp, .ref a_me, .int mth, .int mrq, .ref a_mq, .long mtr, .ref a_mr, .ref a_mo, .int mos, .ref a_ml, .ref a_mt, .ref a_mf])), (a_mp, .inl (kA, 42, .inl mpF)), (a_me, .inl (kA, 42, .inl (upd meF p2.toNatClampNeg p3)))] H := hP
            have hD : va_D A [(a_m, .inr (7, [.int mkd, .int mrt, .int mri, .int mca, .int mpr, .int men, .ref a_mp, .ref a_me, .int mth, .int mrq, .ref a_mq, .long mtr, .ref a_mr, .ref a_mo, .int mos, .ref a_ml, .ref a_mt, .ref a_mf])), (a_mp, .inl (kA, 42, .inl mpF)), (a_me, .inl (kA, 42, .inl (upd meF p2.toNatClampNeg p3)))] := hD
            refine lv_iload hx hb dX7_share_86 (lv_at hl 0 rfl) ?_
            rw [hQ]
            exact rt_i (mpF, (upd meF p2.toNatClampNeg p3)) hx hb hr hlocks h hP hD hS dX7_share_88
          · replace h := h.2 c66
            refine lv_aload_n hx hb dX7_share_69 rfl (lv_at hl 1 rfl) ?_
            refine va_get (D := (dC, dI)) (ci := 7) (v := .ref a_mp) (C := RX7) (T := TX7) (N := 18) hx hb hts (fun _ h => List.mem_cons_of_mem _ (List.mem_append_right _ h)) hown hK hP 0 rfl rfl 6 (by decide) (hts (.fieldLink RX7 22 "RentOrBuyModel" "planShare" "[I") (List.mem_cons_of_mem _ (List.mem_append_left _ (List.mem_of_getElem? (i := 0) rfl)))) (fun _ h9 => h9) rfl dX7_share_70 ?_
            refine lv_iload_n hx hb dX7_share_73 rfl (lv_at hl 3 rfl) ?_
            refine lv_iload_n hx hb dX7_share_74 rfl (lv_at hl 4 rfl) ?_
            obtain ⟨hi75, h⟩ := h
            refine va_iast hx hb hK hP hD hS 1 0 rfl rfl hi75 dX7_share_75 (fun H locs hP hD hS => ?_)
            have hP : va_P (dC, dI) vwCl [(a_m, .inr (7, [.int mkd, .int mrt, .int mri, .int mca, .int mpr, .int men, .ref a_mp, .ref a_me, .int mth, .int mrq, .ref a_mq, .long mtr, .ref a_mr, .ref a_mo, .int mos, .ref a_ml, .ref a_mt, .ref a_mf])), (a_mp, .inl (kA, 42, .inl (upd mpF p2.toNatClampNeg p3))), (a_me, .inl (kA, 42, .inl meF))] H := hP
            have hD : va_D A [(a_m, .inr (7, [.int mkd, .int mrt, .int mri, .int mca, .int mpr, .int men, .ref a_mp, .ref a_me, .int mth, .int mrq, .ref a_mq, .long mtr, .ref a_mr, .ref a_mo, .int mos, .ref a_ml, .ref a_mt, .ref a_mf])), (a_mp, .inl (kA, 42, .inl (upd mpF p2.toNatClampNeg p3))), (a_me, .inl (kA, 42, .inl meF))] := hD
            refine lv_goto (tgt := 86) hx hb dX7_share_76 (by decide) ?_
            refine lv_iload hx hb dX7_share_86 (lv_at hl 0 rfl) ?_
            rw [hQ]
            exact rt_i ((upd mpF p2.toNatClampNeg p3), meF) hx hb hr hlocks h hP hD hS dX7_share_88
        refine lv_if_ne (tgt := 57) hx hb dX7_share_45 (by decide) (fun c45 => ?_) (fun c45 => ?_)
        · replace h := h.1 c45
          refine lv_aload_n hx hb dX7_share_57 rfl (lv_at hl 0 rfl) ?_
          refine va_get (D := (dC, dI)) (ci := 7) (v := .ref a_me) (C := RX7) (T := TX7) (N := 18) hx hb hts (fun _ h => List.mem_cons_of_mem _ (List.mem_append_right _ h)) hown hK hP 0 rfl rfl 7 (by decide) (hts (.fieldLink RX7 26 "RentOrBuyModel" "endShare" "[I") (List.mem_cons_of_mem _ (List.mem_append_left _ (List.mem_of_getElem? (i := 1) rfl)))) (fun _ h9 => h9) rfl dX7_share_58 ?_
          refine lv_iload_n hx hb dX7_share_61 rfl (lv_at hl 2 rfl) ?_
          obtain ⟨hi62, h⟩ := h
          refine va_iald hx hb hK hP 2 0 rfl rfl hi62 dX7_share_62 ?_
          exact hJ63 (meF p2.toNatClampNeg) h _ _ _ hP hD hS (lv_sub hl [0, 1, 2, 3] rfl)
        · replace h := h.2 c45
          refine lv_aload_n hx hb dX7_share_48 rfl (lv_at hl 0 rfl) ?_
          refine va_get (D := (dC, dI)) (ci := 7) (v := .ref a_mp) (C := RX7) (T := TX7) (N := 18) hx hb hts (fun _ h => List.mem_cons_of_mem _ (List.mem_append_right _ h)) hown hK hP 0 rfl rfl 6 (by decide) (hts (.fieldLink RX7 22 "RentOrBuyModel" "planShare" "[I") (List.mem_cons_of_mem _ (List.mem_append_left _ (List.mem_of_getElem? (i := 0) rfl)))) (fun _ h9 => h9) rfl dX7_share_49 ?_
          refine lv_iload_n hx hb dX7_share_52 rfl (lv_at hl 2 rfl) ?_
          obtain ⟨hi53, h⟩ := h
          refine va_iald hx hb hK hP 1 0 rfl rfl hi53 dX7_share_53 ?_
          refine lv_goto (tgt := 63) hx hb dX7_share_54 (by decide) ?_
          exact hJ63 (mpF p2.toNatClampNeg) h _ _ _ hP hD hS (lv_sub hl [0, 1, 2, 3] rfl)
      · replace h := h.2 c39
        refine lv_iconst (v := (-1 : Int32)) hx hb dX7_share_42 (by decide +kernel) ?_
        rw [hQ]
        exact rt_i (mpF, meF) hx hb hr hlocks h hP hD hS dX7_share_43
    refine lv_if_ne (tgt := 24) hx hb dX7_share_10 (by decide) (fun c10 => ?_) (fun c10 => ?_)
    · replace h := h.1 c10
      refine lv_aload_n hx hb dX7_share_24 rfl (lv_at hl 0 rfl) ?_
      refine lv_iload_n hx hb dX7_share_25 rfl (lv_at hl 2 rfl) ?_
      have hPc := hP.sub (ws' := [(a_m, .inr (7, [.int mkd, .int mrt, .int mri, .int mca, .int mpr, .int men, .ref a_mp, .ref a_me, .int mth, .int mrq, .ref a_mq, .long mtr, .ref a_mr, .ref a_mo, .int mos, .ref a_ml, .ref a_mt, .ref a_mf]))]) [0] rfl
      have hDc := hD.sub (ws' := [(a_m, .inr (7, [.int mkd, .int mrt, .int mri, .int mca, .int mpr, .int men, .ref a_mp, .ref a_me, .int mth, .int mrq, .ref a_mq, .long mtr, .ref a_mr, .ref a_mo, .int mos, .ref a_ml, .ref a_mt, .ref a_mf]))]) [0] (by decide) rfl
      refine fr_i (wr := [(a_mp, .inl (kA, 42, .inl mpF)), (a_me, .inl (kA, 42, .inl meF))]) (WN := fun (u26 : Unit) => [(a_m, .inr (7, [.int mkd, .int mrt, .int mri, .int mca, .int mpr, .int men, .ref a_mp, .ref a_me, .int mth, .int mrq, .ref a_mq, .long mtr, .ref a_mr, .ref a_mo, .int mos, .ref a_ml, .ref a_mt, .ref a_mf])), (a_mp, .inl (kA, 42, .inl mpF)), (a_me, .inl (kA, 42, .inl meF))]) (va_runV (As := [.int p2]) (rest := []) ⟨hx, hb, hml, hown, hts⟩ (c_X7_isEnd l dC dI kA a_m a_mp a_me a_mq a_mr a_mo a_ml a_mt a_mf H.size mkd mrt mri mca mpr men mth mrq mtr mos p2 _ h) (cwV 1 hts gX7_share_X7_isEnd rfl rfl rfl (by decide +kernel) ⟨Nat.le_of_ble_eq_true rfl, Nat.le_of_ble_eq_true rfl⟩) (prW.preV (ci := 7) (q0 := 0) hPc hDc hK hN rfl rfl) rfl rfl hl.1 rfl (lv_room (Nat.le_of_ble_eq_true rfl)) dX7_share_26 ⟨Nat.le_of_ble_eq_true rfl, Nat.le_of_ble_eq_true rfl⟩) hP hD hS hA [0] [1, 2] rfl rfl (by decide) (by decide) [2, 0, 1] (by decide) (fun _ => rfl) (fun r26 u26 H locs h hP hD hS => ?_)
      have hP : va_P (dC, dI) vwCl [(a_m, .inr (7, [.int mkd, .int mrt, .int mri, .int mca, .int mpr, .int men, .ref a_mp, .ref a_me, .int mth, .int mrq, .ref a_mq, .long mtr, .ref a_mr, .ref a_mo, .int mos, .ref a_ml, .ref a_mt, .ref a_mf])), (a_mp, .inl (kA, 42, .inl mpF)), (a_me, .inl (kA, 42, .inl meF))] H := hP
      have hD : va_D A [(a_m, .inr (7, [.int mkd, .int mrt, .int mri, .int mca, .int mpr, .int men, .ref a_mp, .ref a_me, .int mth, .int mrq, .ref a_mq, .long mtr, .ref a_mr, .ref a_mo, .int mos, .ref a_ml, .ref a_mt, .ref a_mf])), (a_mp, .inl (kA, 42, .inl mpF)), (a_me, .inl (kA, 42, .inl meF))] := hD
      refine lv_if_eq (tgt := 42) hx hb dX7_share_29 (by decide) (fun c29 => ?_) (fun c29 => ?_)
      · replace h := h.1 c29
        refine lv_iconst (v := (-1 : Int32)) hx hb dX7_share_42 (by decide +kernel) ?_
        rw [hQ]
        exact rt_i (mpF, meF) hx hb hr hlocks h hP hD hS dX7_share_43
      · replace h := h.2 c29
        exact hJ32 h _ _ _ hP hD hS (lv_sub hl [0, 1, 2, 3] rfl)
    · replace h := h.2 c10
      refine lv_aload_n hx hb dX7_share_13 rfl (lv_at hl 0 rfl) ?_
      refine lv_iload_n hx hb dX7_share_14 rfl (lv_at hl 2 rfl) ?_
      have hPc := hP.sub (ws' := [(a_m, .inr (7, [.int mkd, .int mrt, .int mri, .int mca, .int mpr, .int men, .ref a_mp, .ref a_me, .int mth, .int mrq, .ref a_mq, .long mtr, .ref a_mr, .ref a_mo, .int mos, .ref a_ml, .ref a_mt, .ref a_mf]))]) [0] rfl
      have hDc := hD.sub (ws' := [(a_m, .inr (7, [.int mkd, .int mrt, .int mri, .int mca, .int mpr, .int men, .ref a_mp, .ref a_me, .int mth, .int mrq, .ref a_mq, .long mtr, .ref a_mr, .ref a_mo, .int mos, .ref a_ml, .ref a_mt, .ref a_mf]))]) [0] (by decide) rfl
      refine fr_i (wr := [(a_mp, .inl (kA, 42, .inl mpF)), (a_me, .inl (kA, 42, .inl meF))]) (WN := fun (u15 : Unit) => [(a_m, .inr (7, [.int mkd, .int mrt, .int mri, .int mca, .int mpr, .int men, .ref a_mp, .ref a_me, .int mth, .int mrq, .ref a_mq, .long mtr, .ref a_mr, .ref a_mo, .int mos, .ref a_ml, .ref a_mt, .ref a_mf])), (a_mp, .inl (kA, 42, .inl mpF)), (a_me, .inl (kA, 42, .inl meF))]) (va_runV (As := [.int p2]) (rest := []) ⟨hx, hb, hml, hown, hts⟩ (c_X7_isPlan l dC dI kA a_m a_mp a_me a_mq a_mr a_mo a_ml a_mt a_mf H.size mkd mrt mri mca mpr men mth mrq mtr mos p2 _ h) (cwV 1 hts gX7_share_X7_isPlan rfl rfl rfl (by decide +kernel) ⟨Nat.le_of_ble_eq_true rfl, Nat.le_of_ble_eq_true rfl⟩) (prW.preV (ci := 7) (q0 := 0) hPc hDc hK hN rfl rfl) rfl rfl hl.1 rfl (lv_room (Nat.le_of_ble_eq_true rfl)) dX7_share_15 ⟨Nat.le_of_ble_eq_true rfl, Nat.le_of_ble_eq_true rfl⟩) hP hD hS hA [0] [1, 2] rfl rfl (by decide) (by decide) [2, 0, 1] (by decide) (fun _ => rfl) (fun r15 u15 H locs h hP hD hS => ?_)
      have hP : va_P (dC, dI) vwCl [(a_m, .inr (7, [.int mkd, .int mrt, .int mri, .int mca, .int mpr, .int men, .ref a_mp, .ref a_me, .int mth, .int mrq, .ref a_mq, .long mtr, .ref a_mr, .ref a_mo, .int mos, .ref a_ml, .ref a_mt, .ref a_mf])), (a_mp, .inl (kA, 42, .inl mpF)), (a_me, .inl (kA, 42, .inl meF))] H := hP
      have hD : va_D A [(a_m, .inr (7, [.int mkd, .int mrt, .int mri, .int mca, .int mpr, .int men, .ref a_mp, .ref a_me, .int mth, .int mrq, .ref a_mq, .long mtr, .ref a_mr, .ref a_mo, .int mos, .ref a_ml, .ref a_mt, .ref a_mf])), (a_mp, .inl (kA, 42, .inl mpF)), (a_me, .inl (kA, 42, .inl meF))] := hD
      refine lv_if_ne (tgt := 32) hx hb dX7_share_18 (by decide) (fun c18 => ?_) (fun c18 => ?_)
      · replace h := h.1 c18
        exact hJ32 h _ _ _ hP hD hS (lv_sub hl [0, 1, 2, 3] rfl)
      · replace h := h.2 c18
        refine lv_goto (tgt := 42) hx hb dX7_share_21 (by decide) ?_
        refine lv_iconst (v := (-1 : Int32)) hx hb dX7_share_42 (by decide +kernel) ?_
        rw [hQ]
        exact rt_i (mpF, meF) hx hb hr hlocks h hP hD hS dX7_share_43

/-- RentOrBuyModel.sure -/
def rmX7_sure : Room := { frames := 5, cells := 0, slots := 0, locals := 114 }
set_option maxHeartbeats 4000000 in
set_option maxRecDepth 100000 in
theorem c_X7_sure (l : Launch) (dC : Nat → ClassId) (dI : Nat → Nat → Nat) (kA : ClassId) (a_m a_mp a_me a_mq a_mr a_mo a_ml a_mt a_mf : Nat) (sz : Nat) (mkd : Int32) (mrt : Int32) (mri : Int32) (mca : Int32) (mpr : Int32) (men : Int32) (mth : Int32) (mrq : Int32) (mtr : Int64) (mos : Int32) (K : Int32 → Prop) (hg : g_X7_sure mkd mrt mri mca mpr men mth mrq mtr mos K) : Met l yX7_sure wsX7_sure rmX7_sure (va_Pc [.ref a_m] (prW (dC, dI) kA sz [(a_m, .inr (7, [.int mkd, .int mrt, .int mri, .int mca, .int mpr, .int men, .ref a_mp, .ref a_me, .int mth, .int mrq, .ref a_mq, .long mtr, .ref a_mr, .ref a_mo, .int mos, .ref a_ml, .ref a_mt, .ref a_mf]))])) (va_Qi (fun (r : Int32) (u : Unit) => K r) (poW (dC, dI) (va_A [(a_m, .inr (7, [.int mkd, .int mrt, .int mri, .int mca, .int mpr, .int men, .ref a_mp, .ref a_me, .int mth, .int mrq, .ref a_mq, .long mtr, .ref a_mr, .ref a_mo, .int mos, .ref a_ml, .ref a_mt, .ref a_mf]))] sz) (fun (u : Unit) => [(a_m, .inr (7, [.int mkd, .int mrt, .int mri, .int mca, .int mpr, .int men, .ref a_mp, .ref a_me, .int mth, .int mrq, .ref a_mq, .long mtr, .ref a_mr, .ref a_mo, .int mos, .ref a_ml, .ref a_mt, .ref a_mf]))])) (va_A [(a_m, .inr (7, [.int mkd, .int mrt, .int mri, .int mca, .int mpr, .int men, .ref a_mp, .ref a_me, .int mth, .int mrq, .ref a_mq, .long mtr, .ref a_mr, .ref a_mo, .int mos, .ref a_ml, .ref a_mt, .ref a_mf]))] sz)) 0 0 (va_A [(a_m, .inr (7, [.int mkd, .int mrt, .int mri, .int mca, .int mpr, .int men, .ref a_mp, .ref a_me, .int mth, .int mrq, .ref a_mq, .long mtr, .ref a_mr, .ref a_mo, .int mos, .ref a_ml, .ref a_mt, .ref a_mf]))] sz) := by
  refine Met.ofW (cc := cX7_sure) (maxL := 1) (ret := (some .int)) (by decide) rfl ?_
  intro p e s m args below meth c s₁ B hml hv
  obtain ⟨hargs, hsz, hP, hK, hD0, hN⟩ := hv
  have hx := B.exec
  have hb := B.bytes
  have hr := B.returns
  have hts := atoms_spec (ws := wsX7_sure) B.pre
  have hown : s.vm.findClass RX7 = some m.cls := findClass_of_methodNamed B.named
  have hlocks := B.notSynchronized
  subst hsz
  have hD := hD0.self (sz := s.heap.size)
  generalize hAe : va_A [(a_m, .inr (7, [.int mkd, .int mrt, .int mri, .int mca, .int mpr, .int men, .ref a_mp, .ref a_me, .int mth, .int mrq, .ref a_mq, .long mtr, .ref a_mr, .ref a_mo, .int mos, .ref a_ml, .ref a_mt, .ref a_mf]))] s.heap.size = A at hD ⊢
  have hA : ∀ q : Nat, s.heap.size ≤ q → A q := fun q h => by rw [← hAe]; exact Or.inr h
  have hS : va_S A s.heap s.heap [] := va_S.rf
  obtain ⟨Q, hQ⟩ : ∃ Q : State → Prop, Q = MQ below (va_Qi (fun (r : Int32) (u : Unit) => K r) (poW (dC, dI) A (fun (u : Unit) => [(a_m, .inr (7, [.int mkd, .int mrt, .int mri, .int mca, .int mpr, .int men, .ref a_mp, .ref a_me, .int mth, .int mrq, .ref a_mq, .long mtr, .ref a_mr, .ref a_mo, .int mos, .ref a_ml, .ref a_mt, .ref a_mf]))])) A) args s 0 0 A := ⟨_, rfl⟩
  rw [← hQ]
  have hP : va_P (dC, dI) vwCl [(a_m, .inr (7, [.int mkd, .int mrt, .int mri, .int mca, .int mpr, .int men, .ref a_mp, .ref a_me, .int mth, .int mrq, .ref a_mq, .long mtr, .ref a_mr, .ref a_mo, .int mos, .ref a_ml, .ref a_mt, .ref a_mf]))] s.heap := hP
  refine en_ok hargs (Nat.le_of_ble_eq_true rfl) (fun ls hl => ?_)
  have hl : lv_has ls 1 [(0, .ref a_m)] := hl
  have h := hg
  unfold g_X7_sure at h
  refine lv_aload_n hx hb dX7_sure_0 rfl (lv_at hl 0 rfl) ?_
  have hPc := hP.sub (ws' := [(a_m, .inr (7, [.int mkd, .int mrt, .int mri, .int mca, .int mpr, .int men, .ref a_mp, .ref a_me, .int mth, .int mrq, .ref a_mq, .long mtr, .ref a_mr, .ref a_mo, .int mos, .ref a_ml, .ref a_mt, .ref a_mf]))]) [0] rfl
  have hDc := hD.sub (ws' := [(a_m, .inr (7, [.int mkd, .int mrt, .int mri, .int mca, .int mpr, .int men, .ref a_mp, .ref a_me, .int mth, .int mrq, .ref a_mq, .long mtr, .ref a_mr, .ref a_mo, .int mos, .ref a_ml, .ref a_mt, .ref a_mf]))]) [0] (by decide) rfl
  refine fr_i (wr := []) (WN := fun (u1 : Unit) => [(a_m, .inr (7, [.int mkd, .int mrt, .int mri, .int mca, .int mpr, .int men, .ref a_mp, .ref a_me, .int mth, .int mrq, .ref a_mq, .long mtr, .ref a_mr, .ref a_mo, .int mos, .ref a_ml, .ref a_mt, .ref a_mf]))]) (va_runV (As := []) (rest := []) ⟨hx, hb, hml, hown, hts⟩ (c_X7_surePlan l dC dI kA a_m a_mp a_me a_mq a_mr a_mo a_ml a_mt a_mf s.heap.size mkd mrt mri mca mpr men mth mrq mtr mos _ h) (cwV 0 hts gX7_sure_X7_surePlan rfl rfl rfl (by decide +kernel) ⟨Nat.le_of_ble_eq_true rfl, Nat.le_of_ble_eq_true rfl⟩) (prW.preV (ci := 7) (q0 := 0) hPc hDc hK hN rfl rfl) rfl rfl hl.1 rfl (lv_room (Nat.le_of_ble_eq_true rfl)) dX7_sure_1 ⟨Nat.le_of_ble_eq_true rfl, Nat.le_of_ble_eq_true rfl⟩) hP hD hS hA [0] [] rfl rfl (by decide) (by decide) [0] (by decide) (fun _ => rfl) (fun r1 u1 H locs h hP hD hS => ?_)
  have hP : va_P (dC, dI) vwCl [(a_m, .inr (7, [.int mkd, .int mrt, .int mri, .int mca, .int mpr, .int men, .ref a_mp, .ref a_me, .int mth, .int mrq, .ref a_mq, .long mtr, .ref a_mr, .ref a_mo, .int mos, .ref a_ml, .ref a_mt, .ref a_mf]))] H := hP
  have hD : va_D A [(a_m, .inr (7, [.int mkd, .int mrt, .int mri, .int mca, .int mpr, .int men, .ref a_mp, .ref a_me, .int mth, .int mrq, .ref a_mq, .long mtr, .ref a_mr, .ref a_mo, .int mos, .ref a_ml, .ref a_mt, .ref a_mf]))] := hD
  rw [hQ]
  exact rt_i () hx hb hr hlocks h hP hD hS dX7_sure_4

/-- RentOrBuyModel.trace -/
def rmX7_trace : Room := { frames := 0, cells := 0, slots := 0, locals := 0 }
set_option maxHeartbeats 4000000 in
set_option maxRecDepth 100000 in
theorem c_X7_trace (l : Launch) (dC : Nat → ClassId) (dI : Nat → Nat → Nat) (kA : ClassId) (a_m a_mp a_me a_mq a_mr a_mo a_ml a_mt a_mf : Nat) (sz : Nat) (mkd : Int32) (mrt : Int32) (mri : Int32) (mca : Int32) (mpr : Int32) (men : Int32) (mth : Int32) (mrq : Int32) (mtr : Int64) (mos : Int32) (K : Int64 → Prop) (hg : g_X7_trace mkd mrt mri mca mpr men mth mrq mtr mos K) : Met l yX7_trace wsX7_trace rmX7_trace (va_Pc [.ref a_m] (prW (dC, dI) kA sz [(a_m, .inr (7, [.int mkd, .int mrt, .int mri, .int mca, .int mpr, .int men, .ref a_mp, .ref a_me, .int mth, .int mrq, .ref a_mq, .long mtr, .ref a_mr, .ref a_mo, .int mos, .ref a_ml, .ref a_mt, .ref a_mf]))])) (va_Ql (fun (r : Int64) (u : Unit) => K r) (poW (dC, dI) (va_A [(a_m, .inr (7, [.int mkd, .int mrt, .int mri, .int mca, .int mpr, .int men, .ref a_mp, .ref a_me, .int mth, .int mrq, .ref a_mq, .long mtr, .ref a_mr, .ref a_mo, .int mos, .ref a_ml, .ref a_mt, .ref a_mf]))] sz) (fun (u : Unit) => [(a_m, .inr (7, [.int mkd, .int mrt, .int mri, .int mca, .int mpr, .int men, .ref a_mp, .ref a_me, .int mth, .int mrq, .ref a_mq, .long mtr, .ref a_mr, .ref a_mo, .int mos, .ref a_ml, .ref a_mt, .ref a_mf]))])) (va_A [(a_m, .inr (7, [.int mkd, .int mrt, .int mri, .int mca, .int mpr, .int men, .ref a_mp, .ref a_me, .int mth, .int mrq, .ref a_mq, .long mtr, .ref a_mr, .ref a_mo, .int mos, .ref a_ml, .ref a_mt, .ref a_mf]))] sz)) 0 0 (va_A [(a_m, .inr (7, [.int mkd, .int mrt, .int mri, .int mca, .int mpr, .int men, .ref a_mp, .ref a_me, .int mth, .int mrq, .ref a_mq, .long mtr, .ref a_mr, .ref a_mo, .int mos, .ref a_ml, .ref a_mt, .ref a_mf]))] sz) := by
  refine Met.ofW (cc := cX7_trace) (maxL := 1) (ret := (some .long)) (by decide) rfl ?_
  intro p e s m args below meth c s₁ B hml hv
  obtain ⟨hargs, hsz, hP, hK, hD0, hN⟩ := hv
  have hx := B.exec
  have hb := B.bytes
  have hr := B.returns
  have hts := atoms_spec (ws := wsX7_trace) B.pre
  have hown : s.vm.findClass RX7 = some m.cls := findClass_of_methodNamed B.named
  have hlocks := B.notSynchronized
  subst hsz
  have hD := hD0.self (sz := s.heap.size)
  generalize hAe : va_A [(a_m, .inr (7, [.int mkd, .int mrt, .int mri, .int mca, .int mpr, .int men, .ref a_mp, .ref a_me, .int mth, .int mrq, .ref a_mq, .long mtr, .ref a_mr, .ref a_mo, .int mos, .ref a_ml, .ref a_mt, .ref a_mf]))] s.heap.size = A at hD ⊢
  have hA : ∀ q : Nat, s.heap.size ≤ q → A q := fun q h => by rw [← hAe]; exact Or.inr h
  have hS : va_S A s.heap s.heap [] := va_S.rf
  obtain ⟨Q, hQ⟩ : ∃ Q : State → Prop, Q = MQ below (va_Ql (fun (r : Int64) (u : Unit) => K r) (poW (dC, dI) A (fun (u : Unit) => [(a_m, .inr (7, [.int mkd, .int mrt, .int mri, .int mca, .int mpr, .int men, .ref a_mp, .ref a_me, .int mth, .int mrq, .ref a_mq, .long mtr, .ref a_mr, .ref a_mo, .int mos, .ref a_ml, .ref a_mt, .ref a_mf]))])) A) args s 0 0 A := ⟨_, rfl⟩
  rw [← hQ]
  have hP : va_P (dC, dI) vwCl [(a_m, .inr (7, [.int mkd, .int mrt, .int mri, .int mca, .int mpr, .int men, .ref a_mp, .ref a_me, .int mth, .int mrq, .ref a_mq, .long mtr, .ref a_mr, .ref a_mo, .int mos, .ref a_ml, .ref a_mt, .ref a_mf]))] s.heap := hP
  refine en_ok hargs (Nat.le_of_ble_eq_true rfl) (fun ls hl => ?_)
  have hl : lv_has ls 1 [(0, .ref a_m)] := hl
  have h := hg
  unfold g_X7_trace at h
  refine lv_aload_n hx hb dX7_trace_0 rfl (lv_at hl 0 rfl) ?_
  refine va_get (D := (dC, dI)) (ci := 7) (v := .long mtr) (C := RX7) (T := TX7) (N := 18) hx hb hts (fun _ h => List.mem_cons_of_mem _ (List.mem_append_right _ h)) hown hK hP 0 rfl rfl 11 (by decide) (hts (.fieldLink RX7 73 "RentOrBuyModel" "trace" "J") (List.mem_cons_of_mem _ (List.mem_append_left _ (List.mem_of_getElem? (i := 0) rfl)))) (fun _ h9 => h9) rfl dX7_trace_1 ?_
  rw [hQ]
  exact rt_l () hx hb hr hlocks h hP hD hS dX7_trace_4

/-- RentOrBuyModel.trust -/
def rmX7_trust : Room := { frames := 6, cells := 0, slots := 0, locals := 138 }
set_option maxHeartbeats 4000000 in
set_option maxRecDepth 100000 in
theorem c_X7_trust (l : Launch) (dC : Nat → ClassId) (dI : Nat → Nat → Nat) (kA : ClassId) (a_m a_mp a_me a_mq a_mr a_mo a_ml a_mt a_mf : Nat) (sz : Nat) (mkd : Int32) (mrt : Int32) (mri : Int32) (mca : Int32) (mpr : Int32) (men : Int32) (mth : Int32) (mrq : Int32) (mtr : Int64) (mos : Int32) (p1 : Int32) (p2 : Int32) (p3 : Int32) (p4 : Int32) (K : Int32 → Prop) (hg : g_X7_trust mkd mrt mri mca mpr men mth mrq mtr mos p1 p2 p3 p4 K) : Met l yX7_trust wsX7_trust rmX7_trust (va_Pc [.ref a_m, .int p1, .int p2, .int p3, .int p4] (prW (dC, dI) kA sz [(a_m, .inr (7, [.int mkd, .int mrt, .int mri, .int mca, .int mpr, .int men, .ref a_mp, .ref a_me, .int mth, .int mrq, .ref a_mq, .long mtr, .ref a_mr, .ref a_mo, .int mos, .ref a_ml, .ref a_mt, .ref a_mf]))])) (va_Qi (fun (r : Int32) (u : Unit) => K r) (poW (dC, dI) (va_A [(a_m, .inr (7, [.int mkd, .int mrt, .int mri, .int mca, .int mpr, .int men, .ref a_mp, .ref a_me, .int mth, .int mrq, .ref a_mq, .long mtr, .ref a_mr, .ref a_mo, .int mos, .ref a_ml, .ref a_mt, .ref a_mf]))] sz) (fun (u : Unit) => [(a_m, .inr (7, [.int mkd, .int mrt, .int mri, .int mca, .int mpr, .int men, .ref a_mp, .ref a_me, .int mth, .int mrq, .ref a_mq, .long mtr, .ref a_mr, .ref a_mo, .int mos, .ref a_ml, .ref a_mt, .ref a_mf]))])) (va_A [(a_m, .inr (7, [.int mkd, .int mrt, .int mri, .int mca, .int mpr, .int men, .ref a_mp, .ref a_me, .int mth, .int mrq, .ref a_mq, .long mtr, .ref a_mr, .ref a_mo, .int mos, .ref a_ml, .ref a_mt, .ref a_mf]))] sz)) 0 0 (va_A [(a_m, .inr (7, [.int mkd, .int mrt, .int mri, .int mca, .int mpr, .int men, .ref a_mp, .ref a_me, .int mth, .int mrq, .ref a_mq, .long mtr, .ref a_mr, .ref a_mo, .int mos, .ref a_ml, .ref a_mt, .ref a_mf]))] sz) := by
  refine Met.ofW (cc := cX7_trust) (maxL := 5) (ret := (some .int)) (by decide) rfl ?_
  intro p e s m args below meth c s₁ B hml hv
  obtain ⟨hargs, hsz, hP, hK, hD0, hN⟩ := hv
  have hx := B.exec
  have hb := B.bytes
  have hr := B.returns
  have hts := atoms_spec (ws := wsX7_trust) B.pre
  have hown : s.vm.findClass RX7 = some m.cls := findClass_of_methodNamed B.named
  have hlocks := B.notSynchronized
  subst hsz
  have hD := hD0.self (sz := s.heap.size)
  generalize hAe : va_A [(a_m, .inr (7, [.int mkd, .int mrt, .int mri, .int mca, .int mpr, .int men, .ref a_mp, .ref a_me, .int mth, .int mrq, .ref a_mq, .long mtr, .ref a_mr, .ref a_mo, .int mos, .ref a_ml, .ref a_mt, .ref a_mf]))] s.heap.size = A at hD ⊢
  have hA : ∀ q : Nat, s.heap.size ≤ q → A q := fun q h => by rw [← hAe]; exact Or.inr h
  have hS : va_S A s.heap s.heap [] := va_S.rf
  obtain ⟨Q, hQ⟩ : ∃ Q : State → Prop, Q = MQ below (va_Qi (fun (r : Int32) (u : Unit) => K r) (poW (dC, dI) A (fun (u : Unit) => [(a_m, .inr (7, [.int mkd, .int mrt, .int mri, .int mca, .int mpr, .int men, .ref a_mp, .ref a_me, .int mth, .int mrq, .ref a_mq, .long mtr, .ref a_mr, .ref a_mo, .int mos, .ref a_ml, .ref a_mt, .ref a_mf]))])) A) args s 0 0 A := ⟨_, rfl⟩
  rw [← hQ]
  have hP : va_P (dC, dI) vwCl [(a_m, .inr (7, [.int mkd, .int mrt, .int mri, .int mca, .int mpr, .int men, .ref a_mp, .ref a_me, .int mth, .int mrq, .ref a_mq, .long mtr, .ref a_mr, .ref a_mo, .int mos, .ref a_ml, .ref a_mt, .ref a_mf]))] s.heap := hP
  refine en_ok hargs (Nat.le_of_ble_eq_true rfl) (fun ls hl => ?_)
  have hl : lv_has ls 5 [(0, .ref a_m), (1, .int p1), (2, .int p2), (3, .int p3), (4, .int p4)] := hl
  have h := hg
  unfold g_X7_trust at h
  refine lv_aload_n hx hb dX7_trust_0 rfl (lv_at hl 0 rfl) ?_
  refine lv_iload_n hx hb dX7_trust_1 rfl (lv_at hl 1 rfl) ?_
  have hPc := hP.sub (ws' := [(a_m, .inr (7, [.int mkd, .int mrt, .int mri, .int mca, .int mpr, .int men, .ref a_mp, .ref a_me, .int mth, .int mrq, .ref a_mq, .long mtr, .ref a_mr, .ref a_mo, .int mos, .ref a_ml, .ref a_mt, .ref a_mf]))]) [0] rfl
  have hDc := hD.sub (ws' := [(a_m, .inr (7, [.int mkd, .int mrt, .int mri, .int mca, .int mpr, .int men, .ref a_mp, .ref a_me, .int mth, .int mrq, .ref a_mq, .long mtr, .ref a_mr, .ref a_mo, .int mos, .ref a_ml, .ref a_mt, .ref a_mf]))]) [0] (by decide) rfl
  refine fr_i (wr := []) (WN := fun (u2 : Unit) => [(a_m, .inr (7, [.int mkd, .int mrt, .int mri, .int mca, .int mpr, .int men, .ref a_mp, .ref a_me, .int mth, .int mrq, .ref a_mq, .long mtr, .ref a_mr, .ref a_mo, .int mos, .ref a_ml, .ref a_mt, .ref a_mf]))]) (va_runV (As := [.int p1]) (rest := []) ⟨hx, hb, hml, hown, hts⟩ (c_X7_isEnd l dC dI kA a_m a_mp a_me a_mq a_mr a_mo a_ml a_mt a_mf s.heap.size mkd mrt mri mca mpr men mth mrq mtr mos p1 _ h) (cwV 1 hts gX7_trust_X7_isEnd rfl rfl rfl (by decide +kernel) ⟨Nat.le_of_ble_eq_true rfl, Nat.le_of_ble_eq_true rfl⟩) (prW.preV (ci := 7) (q0 := 0) hPc hDc hK hN rfl rfl) rfl rfl hl.1 rfl (lv_room (Nat.le_of_ble_eq_true rfl)) dX7_trust_2 ⟨Nat.le_of_ble_eq_true rfl, Nat.le_of_ble_eq_true rfl⟩) hP hD hS hA [0] [] rfl rfl (by decide) (by decide) [0] (by decide) (fun _ => rfl) (fun r2 u2 H locs h hP hD hS => ?_)
  have hP : va_P (dC, dI) vwCl [(a_m, .inr (7, [.int mkd, .int mrt, .int mri, .int mca, .int mpr, .int men, .ref a_mp, .ref a_me, .int mth, .int mrq, .ref a_mq, .long mtr, .ref a_mr, .ref a_mo, .int mos, .ref a_ml, .ref a_mt, .ref a_mf]))] H := hP
  have hD : va_D A [(a_m, .inr (7, [.int mkd, .int mrt, .int mri, .int mca, .int mpr, .int men, .ref a_mp, .ref a_me, .int mth, .int mrq, .ref a_mq, .long mtr, .ref a_mr, .ref a_mo, .int mos, .ref a_ml, .ref a_mt, .ref a_mf]))] := hD
  refine lv_if_eq (tgt := 34) hx hb dX7_trust_5 (by decide) (fun c5 => ?_) (fun c5 => ?_)
  · replace h := h.1 c5
    refine lv_iconst (v := (-1 : Int32)) hx hb dX7_trust_34 (by decide +kernel) ?_
    rw [hQ]
    exact rt_i () hx hb hr hlocks h hP hD hS dX7_trust_35
  · replace h := h.2 c5
    refine lv_iload_n hx hb dX7_trust_8 rfl (lv_at hl 2 rfl) ?_
    have hPc := hP.sub (ws' := []) [] rfl
    have hDc := hD.sub (ws' := []) [] (by decide) rfl
    refine fr_i (wr := [(a_m, .inr (7, [.int mkd, .int mrt, .int mri, .int mca, .int mpr, .int men, .ref a_mp, .ref a_me, .int mth, .int mrq, .ref a_mq, .long mtr, .ref a_mr, .ref a_mo, .int mos, .ref a_ml, .ref a_mt, .ref a_mf]))]) (WN := fun (u9 : Unit) => [(a_m, .inr (7, [.int mkd, .int mrt, .int mri, .int mca, .int mpr, .int men, .ref a_mp, .ref a_me, .int mth, .int mrq, .ref a_mq, .long mtr, .ref a_mr, .ref a_mo, .int mos, .ref a_ml, .ref a_mt, .ref a_mf]))]) (va_runS (As := [.int p2]) (rest := []) ⟨hx, hb, hml, hown, hts⟩ (c_X7_isTrust l dC dI kA H.size p2 _ h) (va_cwS 1 hts gX7_trust_X7_isTrust rfl rfl rfl (by decide +kernel) ⟨Nat.le_of_ble_eq_true rfl, Nat.le_of_ble_eq_true rfl⟩) (prW.preS hPc hDc hK hN) rfl rfl hl.1 rfl (lv_room (Nat.le_of_ble_eq_true rfl)) dX7_trust_9 ⟨Nat.le_of_ble_eq_true rfl, Nat.le_of_ble_eq_true rfl⟩) hP hD hS hA [] [0] rfl rfl (by decide) (by decide) [0] (by decide) (fun _ => rfl) (fun r9 u9 H locs h hP hD hS => ?_)
    have hP : va_P (dC, dI) vwCl [(a_m, .inr (7, [.int mkd, .int mrt, .int mri, .int mca, .int mpr, .int men, .ref a_mp, .ref a_me, .int mth, .int mrq, .ref a_mq, .long mtr, .ref a_mr, .ref a_mo, .int mos, .ref a_ml, .ref a_mt, .ref a_mf]))] H := hP
    have hD : va_D A [(a_m, .inr (7, [.int mkd, .int mrt, .int mri, .int mca, .int mpr, .int men, .ref a_mp, .ref a_me, .int mth, .int mrq, .ref a_mq, .long mtr, .ref a_mr, .ref a_mo, .int mos, .ref a_ml, .ref a_mt, .ref a_mf]))] := hD
    refine lv_if_eq (tgt := 34) hx hb dX7_trust_12 (by decide) (fun c12 => ?_) (fun c12 => ?_)
    · replace h := h.1 c12
      refine lv_iconst (v := (-1 : Int32)) hx hb dX7_trust_34 (by decide +kernel) ?_
      rw [hQ]
      exact rt_i () hx hb hr hlocks h hP hD hS dX7_trust_35
    · replace h := h.2 c12
      refine lv_iload_n hx hb dX7_trust_15 rfl (lv_at hl 3 rfl) ?_
      refine lv_iconst (v := (0 : Int32)) hx hb dX7_trust_16 (by decide +kernel) ?_
      refine lv_iconst (v := (1 : Int32)) hx hb dX7_trust_17 (by decide +kernel) ?_
      have hPc := hP.sub (ws' := []) [] rfl
      have hDc := hD.sub (ws' := []) [] (by decide) rfl
      refine fr_i (wr := [(a_m, .inr (7, [.int mkd, .int mrt, .int mri, .int mca, .int mpr, .int men, .ref a_mp, .ref a_me, .int mth, .int mrq, .ref a_mq, .long mtr, .ref a_mr, .ref a_mo, .int mos, .ref a_ml, .ref a_mt, .ref a_mf]))]) (WN := fun (u18 : Unit) => [(a_m, .inr (7, [.int mkd, .int mrt, .int mri, .int mca, .int mpr, .int men, .ref a_mp, .ref a_me, .int mth, .int mrq, .ref a_mq, .long mtr, .ref a_mr, .ref a_mo, .int mos, .ref a_ml, .ref a_mt, .ref a_mf]))]) (va_runS (As := [.int p3, .int (0 : Int32), .int (1 : Int32)]) (rest := []) ⟨hx, hb, hml, hown, hts⟩ (c_X7_in l dC dI kA H.size p3 (0 : Int32) (1 : Int32) _ h) (va_cwS 3 hts gX7_trust_X7_in rfl rfl rfl (by decide +kernel) ⟨Nat.le_of_ble_eq_true rfl, Nat.le_of_ble_eq_true rfl⟩) (prW.preS hPc hDc hK hN) rfl rfl hl.1 rfl (lv_room (Nat.le_of_ble_eq_true rfl)) dX7_trust_18 ⟨Nat.le_of_ble_eq_true rfl, Nat.le_of_ble_eq_true rfl⟩) hP hD hS hA [] [0] rfl rfl (by decide) (by decide) [0] (by decide) (fun _ => rfl) (fun r18 u18 H locs h hP hD hS => ?_)
      have hP : va_P (dC, dI) vwCl [(a_m, .inr (7, [.int mkd, .int mrt, .int mri, .int mca, .int mpr, .int men, .ref a_mp, .ref a_me, .int mth, .int mrq, .ref a_mq, .long mtr, .ref a_mr, .ref a_mo, .int mos, .ref a_ml, .ref a_mt, .ref a_mf]))] H := hP
      have hD : va_D A [(a_m, .inr (7, [.int mkd, .int mrt, .int mri, .int mca, .int mpr, .int men, .ref a_mp, .ref a_me, .int mth, .int mrq, .ref a_mq, .long mtr, .ref a_mr, .ref a_mo, .int mos, .ref a_ml, .ref a_mt, .ref a_mf]))] := hD
      refine lv_if_eq (tgt := 34) hx hb dX7_trust_21 (by decide) (fun c21 => ?_) (fun c21 => ?_)
      · replace h := h.1 c21
        refine lv_iconst (v := (-1 : Int32)) hx hb dX7_trust_34 (by decide +kernel) ?_
        rw [hQ]
        exact rt_i () hx hb hr hlocks h hP hD hS dX7_trust_35
      · replace h := h.2 c21
        refine lv_iload hx hb dX7_trust_24 (lv_at hl 4 rfl) ?_
        refine lv_iconst (v := (0 : Int32)) hx hb dX7_trust_26 (by decide +kernel) ?_
        refine lv_iconst (v := (1 : Int32)) hx hb dX7_trust_27 (by decide +kernel) ?_
        have hPc := hP.sub (ws' := []) [] rfl
        have hDc := hD.sub (ws' := []) [] (by decide) rfl
        refine fr_i (wr := [(a_m, .inr (7, [.int mkd, .int mrt, .int mri, .int mca, .int mpr, .int men, .ref a_mp, .ref a_me, .int mth, .int mrq, .ref a_mq, .long mtr, .ref a_mr, .ref a_mo, .int mos, .ref a_ml, .ref a_mt, .ref a_mf]))]) (WN := fun (u28 : Unit) => [(a_m, .inr (7, [.int mkd, .int mrt, .int mri, .int mca, .int mpr, .int men, .ref a_mp, .ref a_me, .int mth, .int mrq, .ref a_mq, .long mtr, .ref a_mr, .ref a_mo, .int mos, .ref a_ml, .ref a_mt, .ref a_mf]))]) (va_runS (As := [.int p4, .int (0 : Int32), .int (1 : Int32)]) (rest := []) ⟨hx, hb, hml, hown, hts⟩ (c_X7_in l dC dI kA H.size p4 (0 : Int32) (1 : Int32) _ h) (va_cwS 3 hts gX7_trust_X7_in rfl rfl rfl (by decide +kernel) ⟨Nat.le_of_ble_eq_true rfl, Nat.le_of_ble_eq_true rfl⟩) (prW.preS hPc hDc hK hN) rfl rfl hl.1 rfl (lv_room (Nat.le_of_ble_eq_true rfl)) dX7_trust_28 ⟨Nat.le_of_ble_eq_true rfl, Nat.le_of_ble_eq_true rfl⟩) hP hD hS hA [] [0] rfl rfl (by decide) (by decide) [0] (by decide) (fun _ => rfl) (fun r28 u28 H locs h hP hD hS => ?_)
        have hP : va_P (dC, dI) vwCl [(a_m, .inr (7, [.int mkd, .int mrt, .int mri, .int mca, .int mpr, .int men, .ref a_mp, .ref a_me, .int mth, .int mrq, .ref a_mq, .long mtr, .ref a_mr, .ref a_mo, .int mos, .ref a_ml, .ref a_mt, .ref a_mf]))] H := hP
        have hD : va_D A [(a_m, .inr (7, [.int mkd, .int mrt, .int mri, .int mca, .int mpr, .int men, .ref a_mp, .ref a_me, .int mth, .int mrq, .ref a_mq, .long mtr, .ref a_mr, .ref a_mo, .int mos, .ref a_ml, .ref a_mt, .ref a_mf]))] := hD
        refine lv_if_ne (tgt := 36) hx hb dX7_trust_31 (by decide) (fun c31 => ?_) (fun c31 => ?_)
        · replace h := h.1 c31
          refine lv_aload_n hx hb dX7_trust_36 rfl (lv_at hl 0 rfl) ?_
          refine lv_aload_n hx hb dX7_trust_37 rfl (lv_at hl 0 rfl) ?_
          refine lv_iload_n hx hb dX7_trust_38 rfl (lv_at hl 1 rfl) ?_
          refine lv_iload_n hx hb dX7_trust_39 rfl (lv_at hl 2 rfl) ?_
          have hPc := hP.sub (ws' := [(a_m, .inr (7, [.int mkd, .int mrt, .int mri, .int mca, .int mpr, .int men, .ref a_mp, .ref a_me, .int mth, .int mrq, .ref a_mq, .long mtr, .ref a_mr, .ref a_mo, .int mos, .ref a_ml, .ref a_mt, .ref a_mf]))]) [0] rfl
          have hDc := hD.sub (ws' := [(a_m, .inr (7, [.int mkd, .int mrt, .int mri, .int mca, .int mpr, .int men, .ref a_mp, .ref a_me, .int mth, .int mrq, .ref a_mq, .long mtr, .ref a_mr, .ref a_mo, .int mos, .ref a_ml, .ref a_mt, .ref a_mf]))]) [0] (by decide) rfl
          refine fr_i (wr := []) (WN := fun (u40 : Unit) => [(a_m, .inr (7, [.int mkd, .int mrt, .int mri, .int mca, .int mpr, .int men, .ref a_mp, .ref a_me, .int mth, .int mrq, .ref a_mq, .long mtr, .ref a_mr, .ref a_mo, .int mos, .ref a_ml, .ref a_mt, .ref a_mf]))]) (va_runV (As := [.int p1, .int p2]) (rest := [.ref a_m]) ⟨hx, hb, hml, hown, hts⟩ (c_X7_planBy l dC dI kA a_m a_mp a_me a_mq a_mr a_mo a_ml a_mt a_mf H.size mkd mrt mri mca mpr men mth mrq mtr mos p1 p2 _ h) (cwV 2 hts gX7_trust_X7_planBy rfl rfl rfl (by decide +kernel) ⟨Nat.le_of_ble_eq_true rfl, Nat.le_of_ble_eq_true rfl⟩) (prW.preV (ci := 7) (q0 := 0) hPc hDc hK hN rfl rfl) rfl rfl hl.1 rfl (lv_room (Nat.le_of_ble_eq_true rfl)) dX7_trust_40 ⟨Nat.le_of_ble_eq_true rfl, Nat.le_of_ble_eq_true rfl⟩) hP hD hS hA [0] [] rfl rfl (by decide) (by decide) [0] (by decide) (fun _ => rfl) (fun r40 u40 H locs h hP hD hS => ?_)
          have hP : va_P (dC, dI) vwCl [(a_m, .inr (7, [.int mkd, .int mrt, .int mri, .int mca, .int mpr, .int men, .ref a_mp, .ref a_me, .int mth, .int mrq, .ref a_mq, .long mtr, .ref a_mr, .ref a_mo, .int mos, .ref a_ml, .ref a_mt, .ref a_mf]))] H := hP
          have hD : va_D A [(a_m, .inr (7, [.int mkd, .int mrt, .int mri, .int mca, .int mpr, .int men, .ref a_mp, .ref a_me, .int mth, .int mrq, .ref a_mq, .long mtr, .ref a_mr, .ref a_mo, .int mos, .ref a_ml, .ref a_mt, .ref a_mf]))] := hD
          refine lv_iload_n hx hb dX7_trust_43 rfl (lv_at hl 3 rfl) ?_
          obtain ⟨J52, hR52, h⟩ := h
          have hJ52 : ∀ (t0_52 : Int32), J52 t0_52 → ∀ (H : Heap) (locs : List Loc) (ls : Array Slot), va_P (dC, dI) vwCl [(a_m, .inr (7, [.int mkd, .int mrt, .int mri, .int mca, .int mpr, .int men, .ref a_mp, .ref a_me, .int mth, .int mrq, .ref a_mq, .long mtr, .ref a_mr, .ref a_mo, .int mos, .ref a_ml, .ref a_mt, .ref a_mf]))] H → va_D A [(a_m, .inr (7, [.int mkd, .int mrt, .int mri, .int mca, .int mpr, .int men, .ref a_mp, .ref a_me, .int mth, .int mrq, .ref a_mq, .long mtr, .ref a_mr, .ref a_mo, .int mos, .ref a_ml, .ref a_mt, .ref a_mf]))] → va_S A s.heap H locs → lv_has ls 5 [(4, .int p4)] → W p l e (headSpec wsX7_trust rmX7_trust).room s m args below meth c H locs 0 0 Q (F0 m 52 ls [.int t0_52, .int r40, .ref a_m]) := by
            intro t0_52 h H locs ls hP hD hS hl
            replace h := hR52 t0_52 h
            refine lv_iload hx hb dX7_trust_52 (lv_at hl 0 rfl) ?_
            have hPc := hP.sub (ws' := [(a_m, .inr (7, [.int mkd, .int mrt, .int mri, .int mca, .int mpr, .int men, .ref a_mp, .ref a_me, .int mth, .int mrq, .ref a_mq, .long mtr, .ref a_mr, .ref a_mo, .int mos, .ref a_ml, .ref a_mt, .ref a_mf]))]) [0] rfl
            have hDc := hD.sub (ws' := [(a_m, .inr (7, [.int mkd, .int mrt, .int mri, .int mca, .int mpr, .int men, .ref a_mp, .ref a_me, .int mth, .int mrq, .ref a_mq, .long mtr, .ref a_mr, .ref a_mo, .int mos, .ref a_ml, .ref a_mt, .ref a_mf]))]) [0] (by decide) rfl
            refine fr_i (wr := []) (WN := fun (u54 : Unit) => [(a_m, .inr (7, [.int mkd, .int mrt, .int mri, .int mca, .int mpr, .int men, .ref a_mp, .ref a_me, .int mth, .int mrq, .ref a_mq, .long mtr, .ref a_mr, .ref a_mo, .int mos, .ref a_ml, .ref a_mt, .ref a_mf]))]) (va_runV (As := [.int r40, .int t0_52, .int p4]) (rest := []) ⟨hx, hb, hml, hown, hts⟩ (c_X7_ratio l dC dI kA a_m a_mp a_me a_mq a_mr a_mo a_ml a_mt a_mf H.size mkd mrt mri mca mpr men mth mrq mtr mos r40 t0_52 p4 _ h) (cwV 3 hts gX7_trust_X7_ratio rfl rfl rfl (by decide +kernel) ⟨Nat.le_of_ble_eq_true rfl, Nat.le_of_ble_eq_true rfl⟩) (prW.preV (ci := 7) (q0 := 0) hPc hDc hK hN rfl rfl) rfl rfl hl.1 rfl (lv_room (Nat.le_of_ble_eq_true rfl)) dX7_trust_54 ⟨Nat.le_of_ble_eq_true rfl, Nat.le_of_ble_eq_true rfl⟩) hP hD hS hA [0] [] rfl rfl (by decide) (by decide) [0] (by decide) (fun _ => rfl) (fun r54 u54 H locs h hP hD hS => ?_)
            have hP : va_P (dC, dI) vwCl [(a_m, .inr (7, [.int mkd, .int mrt, .int mri, .int mca, .int mpr, .int men, .ref a_mp, .ref a_me, .int mth, .int mrq, .ref a_mq, .long mtr, .ref a_mr, .ref a_mo, .int mos, .ref a_ml, .ref a_mt, .ref a_mf]))] H := hP
            have hD : va_D A [(a_m, .inr (7, [.int mkd, .int mrt, .int mri, .int mca, .int mpr, .int men, .ref a_mp, .ref a_me, .int mth, .int mrq, .ref a_mq, .long mtr, .ref a_mr, .ref a_mo, .int mos, .ref a_ml, .ref a_mt, .ref a_mf]))] := hD
            rw [hQ]
            exact rt_i () hx hb hr hlocks h hP hD hS dX7_trust_57
          refine lv_if_ne (tgt := 51) hx hb dX7_trust_44 (by decide) (fun c44 => ?_) (fun c44 => ?_)
          · replace h := h.1 c44
            refine lv_iconst (v := (0 : Int32)) hx hb dX7_trust_51 (by decide +kernel) ?_
            exact hJ52 (0 : Int32) h _ _ _ hP hD hS (lv_sub hl [4] rfl)
          · replace h := h.2 c44
            refine lv_iload_n hx hb dX7_trust_47 rfl (lv_at hl 1 rfl) ?_
            refine lv_goto (tgt := 52) hx hb dX7_trust_48 (by decide) ?_
            exact hJ52 p1 h _ _ _ hP hD hS (lv_sub hl [4] rfl)
        · replace h := h.2 c31
          refine lv_iconst (v := (-1 : Int32)) hx hb dX7_trust_34 (by decide +kernel) ?_
          rw [hQ]
          exact rt_i () hx hb hr hlocks h hP hD hS dX7_trust_35

