/-- RentOrBuyModel.lower -/
def rmX7_lower : Room := { frames := 3, cells := 0, slots := 0, locals := 67 }
set_option maxHeartbeats 4000000 in
set_option maxRecDepth 100000 in
theorem c_X7_lower (l : Launch) (dC : Nat → ClassId) (dI : Nat → Nat → Nat) (kA : ClassId) (a_m a_me a_mp a_mq a_mr a_mo a_ml a_mt a_mf : Nat) (sz : Nat) (mkd : Int32) (mrt : Int32) (mri : Int32) (mca : Int32) (mpr : Int32) (men : Int32) (mth : Int32) (mrq : Int32) (mtr : Int64) (mos : Int32) (meF : Nat → Int32) (K : Int32 → Prop) (hg : g_X7_lower mkd mrt mri mca mpr men mth mrq mtr mos meF K) : Met l yX7_lower wsX7_lower rmX7_lower (va_Pc [.ref a_m] (prW (dC, dI) kA sz [(a_m, .inr (7, [.int mkd, .int mrt, .int mri, .int mca, .int mpr, .int men, .ref a_mp, .ref a_me, .int mth, .int mrq, .ref a_mq, .long mtr, .ref a_mr, .ref a_mo, .int mos, .ref a_ml, .ref a_mt, .ref a_mf])), (a_me, .inl (kA, 42, .inl meF))])) (va_Qi (fun (r : Int32) (u : Unit) => K r) (poW (dC, dI) (va_A [(a_m, .inr (7, [.int mkd, .int mrt, .int mri, .int mca, .int mpr, .int men, .ref a_mp, .ref a_me, .int mth, .int mrq, .ref a_mq, .long mtr, .ref a_mr, .ref a_mo, .int mos, .ref a_ml, .ref a_mt, .ref a_mf])), (a_me, .inl (kA, 42, .inl meF))] sz) (fun (u : Unit) => [(a_m, .inr (7, [.int mkd, .int mrt, .int mri, .int mca, .int mpr, .int men, .ref a_mp, .ref a_me, .int mth, .int mrq, .ref a_mq, .long mtr, .ref a_mr, .ref a_mo, .int mos, .ref a_ml, .ref a_mt, .ref a_mf])), (a_me, .inl (kA, 42, .inl meF))])) (va_A [(a_m, .inr (7, [.int mkd, .int mrt, .int mri, .int mca, .int mpr, .int men, .ref a_mp, .ref a_me, .int mth, .int mrq, .ref a_mq, .long mtr, .ref a_mr, .ref a_mo, .int mos, .ref a_ml, .ref a_mt, .ref a_mf])), (a_me, .inl (kA, 42, .inl meF))] sz)) 0 0 (va_A [(a_m, .inr (7, [.int mkd, .int mrt, .int mri, .int mca, .int mpr, .int men, .ref a_mp, .ref a_me, .int mth, .int mrq, .ref a_mq, .long mtr, .ref a_mr, .ref a_mo, .int mos, .ref a_ml, .ref a_mt, .ref a_mf])), (a_me, .inl (kA, 42, .inl meF))] sz) := by
  refine Met.ofW (cc := cX7_lower) (maxL := 9) (ret := (some .int)) (by decide) rfl ?_
  intro p e s m args below meth c s₁ B hml hv
  obtain ⟨hargs, hsz, hP, hK, hD0, hN⟩ := hv
  have hx := B.exec
  have hb := B.bytes
  have hr := B.returns
  have hts := atoms_spec (ws := wsX7_lower) B.pre
  have hown : s.vm.findClass RX7 = some m.cls := findClass_of_methodNamed B.named
  have hlocks := B.notSynchronized
  subst hsz
  have hD := hD0.self (sz := s.heap.size)
  generalize hAe : va_A [(a_m, .inr (7, [.int mkd, .int mrt, .int mri, .int mca, .int mpr, .int men, .ref a_mp, .ref a_me, .int mth, .int mrq, .ref a_mq, .long mtr, .ref a_mr, .ref a_mo, .int mos, .ref a_ml, .ref a_mt, .ref a_mf])), (a_me, .inl (kA, 42, .inl meF))] s.heap.size = A at hD ⊢
  have hA : ∀ q : Nat, s.heap.size ≤ q → A q := fun q h => by rw [← hAe]; exact Or.inr h
  have hS : va_S A s.heap s.heap [] := va_S.rf
  obtain ⟨Q, hQ⟩ : ∃ Q : State → Prop, Q = MQ below (va_Qi (fun (r : Int32) (u : Unit) => K r) (poW (dC, dI) A (fun (u : Unit) => [(a_m, .inr (7, [.int mkd, .int mrt, .int mri, .int mca, .int mpr, .int men, .ref a_mp, .ref a_me, .int mth, .int mrq, .ref a_mq, .long mtr, .ref a_mr, .ref a_mo, .int mos, .ref a_ml, .ref a_mt, .ref a_mf])), (a_me, .inl (kA, 42, .inl meF))])) A) args s 0 0 A := ⟨_, rfl⟩
  rw [← hQ]
  have hP : va_P (dC, dI) vwCl [(a_m, .inr (7, [.int mkd, .int mrt, .int mri, .int mca, .int mpr, .int men, .ref a_mp, .ref a_me, .int mth, .int mrq, .ref a_mq, .long mtr, .ref a_mr, .ref a_mo, .int mos, .ref a_ml, .ref a_mt, .ref a_mf])), (a_me, .inl (kA, 42, .inl meF))] s.heap := hP
  refine en_ok hargs (Nat.le_of_ble_eq_true rfl) (fun ls hl => ?_)
  have hl : lv_has ls 9 [(0, .ref a_m)] := hl
  have h := hg
  unfold g_X7_lower at h
  refine lv_lconst (v := (0 : Int64)) hx hb dX7_lower_0 (by decide +kernel) ?_
  refine lv_lstore_n (lv' := [(1, .long (0 : Int64)), (0, .ref a_m)]) hx hb dX7_lower_1 rfl hl (by decide) rfl (fun ls hl => ?_)
  refine lv_iconst (v := (1 : Int32)) hx hb dX7_lower_2 (by decide +kernel) ?_
  refine lv_istore_n (lv' := [(3, .int (1 : Int32)), (1, .long (0 : Int64)), (0, .ref a_m)]) hx hb dX7_lower_3 rfl hl (by decide) rfl (fun ls hl => ?_)
  obtain ⟨J4, ⟨n4, h⟩, hz4, hs4⟩ := h
  have hL4 : ∀ (n4 : Nat) (v1_4 : Int64) (v3_4 : Int32), J4 n4 v1_4 v3_4 → ∀ (H : Heap) (locs : List Loc) (ls : Array Slot), va_P (dC, dI) vwCl [(a_m, .inr (7, [.int mkd, .int mrt, .int mri, .int mca, .int mpr, .int men, .ref a_mp, .ref a_me, .int mth, .int mrq, .ref a_mq, .long mtr, .ref a_mr, .ref a_mo, .int mos, .ref a_ml, .ref a_mt, .ref a_mf])), (a_me, .inl (kA, 42, .inl meF))] H → va_D A [(a_m, .inr (7, [.int mkd, .int mrt, .int mri, .int mca, .int mpr, .int men, .ref a_mp, .ref a_me, .int mth, .int mrq, .ref a_mq, .long mtr, .ref a_mr, .ref a_mo, .int mos, .ref a_ml, .ref a_mt, .ref a_mf])), (a_me, .inl (kA, 42, .inl meF))] → va_S A s.heap H locs → lv_has ls 9 [(0, .ref a_m), (1, .long v1_4), (3, .int v3_4)] → W p l e (headSpec wsX7_lower rmX7_lower).room s m args below meth c H locs 0 0 Q (F0 m 4 ls []) := by
    intro n4
    induction n4 with
    | zero => intro v1_4 v3_4 h; exact absurd h (hz4 v1_4 v3_4)
    | succ n4 ih4 =>
      intro v1_4 v3_4 h H locs ls hP hD hS hl
      replace h := hs4 n4 v1_4 v3_4 h
      refine lv_iload_n hx hb dX7_lower_4 rfl (lv_at hl 2 rfl) ?_
      refine lv_aload_n hx hb dX7_lower_5 rfl (lv_at hl 0 rfl) ?_
      refine va_get (D := (dC, dI)) (ci := 7) (v := .int men) (C := RX7) (T := TX7) (N := 18) hx hb hts (fun _ h => List.mem_cons_of_mem _ (List.mem_append_right _ h)) hown hK hP 0 rfl rfl 5 (by decide) (hts (.fieldLink RX7 19 "RentOrBuyModel" "ends" "I") (List.mem_cons_of_mem _ (List.mem_append_left _ (List.mem_of_getElem? (i := 0) rfl)))) (fun _ h9 => h9) rfl dX7_lower_6 ?_
      refine lv_icmp_gt (tgt := 28) hx hb dX7_lower_9 (by decide) (fun c9 => ?_) (fun c9 => ?_)
      · replace h := h.1 c9
        refine lv_lload_n hx hb dX7_lower_28 rfl (lv_at hl 1 rfl) ?_
        refine lv_lconst (v := (0 : Int64)) hx hb dX7_lower_29 (by decide +kernel) ?_
        refine W.lcmp hx hb dX7_lower_30 ?_
        refine lv_if_ne (tgt := 37) hx hb dX7_lower_31 (by decide) (fun c31 => ?_) (fun c31 => ?_)
        · replace h := h.1 c31
          refine lv_ldc2 (v := (-1 : Int64)) hx hb hown (hts (.constantLong RX7 103 (-1)) (List.mem_cons_of_mem _ (List.mem_append_left _ (List.mem_of_getElem? (i := 2) rfl)))) dX7_lower_37 ?_
          refine lv_lstore_n (lv' := [(3, .long (-1 : Int64)), (0, .ref a_m), (1, .long v1_4)]) hx hb dX7_lower_40 rfl hl (by decide) rfl (fun ls hl => ?_)
          refine lv_iconst (v := (1 : Int32)) hx hb dX7_lower_41 (by decide +kernel) ?_
          refine lv_istore (lv' := [(5, .int (1 : Int32)), (3, .long (-1 : Int64)), (0, .ref a_m), (1, .long v1_4)]) hx hb dX7_lower_42 hl (by decide) rfl (fun ls hl => ?_)
          obtain ⟨J44, ⟨n44, h⟩, hz44, hs44⟩ := h
          have hL44 : ∀ (n44 : Nat) (v3_44 : Int64) (v5_44 : Int32), J44 n44 v3_44 v5_44 → ∀ (H : Heap) (locs : List Loc) (ls : Array Slot), va_P (dC, dI) vwCl [(a_m, .inr (7, [.int mkd, .int mrt, .int mri, .int mca, .int mpr, .int men, .ref a_mp, .ref a_me, .int mth, .int mrq, .ref a_mq, .long mtr, .ref a_mr, .ref a_mo, .int mos, .ref a_ml, .ref a_mt, .ref a_mf])), (a_me, .inl (kA, 42, .inl meF))] H → va_D A [(a_m, .inr (7, [.int mkd, .int mrt, .int mri, .int mca, .int mpr, .int men, .ref a_mp, .ref a_me, .int mth, .int mrq, .ref a_mq, .long mtr, .ref a_mr, .ref a_mo, .int mos, .ref a_ml, .ref a_mt, .ref a_mf])), (a_me, .inl (kA, 42, .inl meF))] → va_S A s.heap H locs → lv_has ls 9 [(0, .ref a_m), (1, .long v1_4), (3, .long v3_44), (5, .int v5_44)] → W p l e (headSpec wsX7_lower rmX7_lower).room s m args below meth c H locs 0 0 Q (F0 m 44 ls []) := by
            intro n44
            induction n44 with
            | zero => intro v3_44 v5_44 h; exact absurd h (hz44 v3_44 v5_44)
            | succ n44 ih44 =>
              intro v3_44 v5_44 h H locs ls hP hD hS hl
              replace h := hs44 n44 v3_44 v5_44 h
              refine lv_iload hx hb dX7_lower_44 (lv_at hl 3 rfl) ?_
              refine lv_aload_n hx hb dX7_lower_46 rfl (lv_at hl 0 rfl) ?_
              refine va_get (D := (dC, dI)) (ci := 7) (v := .int men) (C := RX7) (T := TX7) (N := 18) hx hb hts (fun _ h => List.mem_cons_of_mem _ (List.mem_append_right _ h)) hown hK hP 0 rfl rfl 5 (by decide) (hts (.fieldLink RX7 19 "RentOrBuyModel" "ends" "I") (List.mem_cons_of_mem _ (List.mem_append_left _ (List.mem_of_getElem? (i := 0) rfl)))) (fun _ h9 => h9) rfl dX7_lower_47 ?_
              refine lv_iconst (v := (1 : Int32)) hx hb dX7_lower_50 (by decide +kernel) ?_
              refine lv_iadd hx hb dX7_lower_51 ?_
              refine lv_icmp_gt (tgt := 137) hx hb dX7_lower_52 (by decide) (fun c52 => ?_) (fun c52 => ?_)
              · replace h := h.1 c52
                refine lv_lload_n hx hb dX7_lower_137 rfl (lv_at hl 2 rfl) ?_
                refine lv_ldc2 (v := (1000 : Int64)) hx hb hown (hts (.constantLong RX7 115 (1000)) (List.mem_cons_of_mem _ (List.mem_append_left _ (List.mem_of_getElem? (i := 4) rfl)))) dX7_lower_138 ?_
                refine lv_lload_n hx hb dX7_lower_141 rfl (lv_at hl 1 rfl) ?_
                refine lv_lmul hx hb dX7_lower_142 ?_
                obtain ⟨hz143, h⟩ := h
                refine lv_ldiv hx hb dX7_lower_143 hz143 ?_
                refine lv_l2i hx hb dX7_lower_144 rfl ?_
                rw [hQ]
                exact rt_i () hx hb hr hlocks h hP hD hS dX7_lower_145
              · replace h := h.2 c52
                refine lv_lconst (v := (0 : Int64)) hx hb dX7_lower_55 (by decide +kernel) ?_
                refine lv_lstore (lv' := [(6, .long (0 : Int64)), (0, .ref a_m), (1, .long v1_4), (3, .long v3_44), (5, .int v5_44)]) hx hb dX7_lower_56 hl (by decide) rfl (fun ls hl => ?_)
                refine lv_iconst (v := (1 : Int32)) hx hb dX7_lower_58 (by decide +kernel) ?_
                refine lv_istore (lv' := [(8, .int (1 : Int32)), (6, .long (0 : Int64)), (0, .ref a_m), (1, .long v1_4), (3, .long v3_44), (5, .int v5_44)]) hx hb dX7_lower_59 hl (by decide) rfl (fun ls hl => ?_)
                obtain ⟨J61, ⟨n61, h⟩, hz61, hs61⟩ := h
                have hL61 : ∀ (n61 : Nat) (v6_61 : Int64) (v8_61 : Int32), J61 n61 v6_61 v8_61 → ∀ (H : Heap) (locs : List Loc) (ls : Array Slot), va_P (dC, dI) vwCl [(a_m, .inr (7, [.int mkd, .int mrt, .int mri, .int mca, .int mpr, .int men, .ref a_mp, .ref a_me, .int mth, .int mrq, .ref a_mq, .long mtr, .ref a_mr, .ref a_mo, .int mos, .ref a_ml, .ref a_mt, .ref a_mf])), (a_me, .inl (kA, 42, .inl meF))] H → va_D A [(a_m, .inr (7, [.int mkd, .int mrt, .int mri, .int mca, .int mpr, .int men, .ref a_mp, .ref a_me, .int mth, .int mrq, .ref a_mq, .long mtr, .ref a_mr, .ref a_mo, .int mos, .ref a_ml, .ref a_mt, .ref a_mf])), (a_me, .inl (kA, 42, .inl meF))] → va_S A s.heap H locs → lv_has ls 9 [(0, .ref a_m), (1, .long v1_4), (3, .long v3_44), (5, .int v5_44), (6, .long v6_61), (8, .int v8_61)] → W p l e (headSpec wsX7_lower rmX7_lower).room s m args below meth c H locs 0 0 Q (F0 m 61 ls []) := by
                  intro n61
                  induction n61 with
                  | zero => intro v6_61 v8_61 h; exact absurd h (hz61 v6_61 v8_61)
                  | succ n61 ih61 =>
                    intro v6_61 v8_61 h H locs ls hP hD hS hl
                    replace h := hs61 n61 v6_61 v8_61 h
                    refine lv_iload hx hb dX7_lower_61 (lv_at hl 5 rfl) ?_
                    refine lv_aload_n hx hb dX7_lower_63 rfl (lv_at hl 0 rfl) ?_
                    refine va_get (D := (dC, dI)) (ci := 7) (v := .int men) (C := RX7) (T := TX7) (N := 18) hx hb hts (fun _ h => List.mem_cons_of_mem _ (List.mem_append_right _ h)) hown hK hP 0 rfl rfl 5 (by decide) (hts (.fieldLink RX7 19 "RentOrBuyModel" "ends" "I") (List.mem_cons_of_mem _ (List.mem_append_left _ (List.mem_of_getElem? (i := 0) rfl)))) (fun _ h9 => h9) rfl dX7_lower_64 ?_
                    refine lv_icmp_gt (tgt := 111) hx hb dX7_lower_67 (by decide) (fun c67 => ?_) (fun c67 => ?_)
                    · replace h := h.1 c67
                      refine lv_lload_n hx hb dX7_lower_111 rfl (lv_at hl 2 rfl) ?_
                      refine lv_lconst (v := (0 : Int64)) hx hb dX7_lower_112 (by decide +kernel) ?_
                      refine W.lcmp hx hb dX7_lower_113 ?_
                      obtain ⟨J130, hR130, h⟩ := h
                      have hJ130 : ∀ (t0_130 : Int64), J130 t0_130 → ∀ (H : Heap) (locs : List Loc) (ls : Array Slot), va_P (dC, dI) vwCl [(a_m, .inr (7, [.int mkd, .int mrt, .int mri, .int mca, .int mpr, .int men, .ref a_mp, .ref a_me, .int mth, .int mrq, .ref a_mq, .long mtr, .ref a_mr, .ref a_mo, .int mos, .ref a_ml, .ref a_mt, .ref a_mf])), (a_me, .inl (kA, 42, .inl meF))] H → va_D A [(a_m, .inr (7, [.int mkd, .int mrt, .int mri, .int mca, .int mpr, .int men, .ref a_mp, .ref a_me, .int mth, .int mrq, .ref a_mq, .long mtr, .ref a_mr, .ref a_mo, .int mos, .ref a_ml, .ref a_mt, .ref a_mf])), (a_me, .inl (kA, 42, .inl meF))] → va_S A s.heap H locs → lv_has ls 9 [(0, .ref a_m), (1, .long v1_4), (5, .int v5_44)] → W p l e (headSpec wsX7_lower rmX7_lower).room s m args below meth c H locs 0 0 Q (F0 m 130 ls [.long t0_130]) := by
                        intro t0_130 h H locs ls hP hD hS hl
                        replace h := hR130 t0_130 h
                        refine lv_lstore_n (lv' := [(3, .long t0_130), (0, .ref a_m), (1, .long v1_4), (5, .int v5_44)]) hx hb dX7_lower_130 rfl hl (by decide) rfl (fun ls hl => ?_)
                        refine lv_iinc (v := (v5_44 + (1 : Int32))) (lv' := [(5, .int (v5_44 + (1 : Int32))), (3, .long t0_130), (0, .ref a_m), (1, .long v1_4)]) hx hb dX7_lower_131 hl (k := 3) rfl (by rfl) (by decide) rfl (fun ls hl => ?_)
                        refine lv_goto (tgt := 44) hx hb dX7_lower_134 (by decide) ?_
                        exact ih44 t0_130 (v5_44 + (1 : Int32)) h _ _ _ hP hD hS (lv_sub hl [2, 3, 1, 0] rfl)
                      obtain ⟨J124, hR124, h⟩ := h
                      have hJ124 : J124 → ∀ (H : Heap) (locs : List Loc) (ls : Array Slot), va_P (dC, dI) vwCl [(a_m, .inr (7, [.int mkd, .int mrt, .int mri, .int mca, .int mpr, .int men, .ref a_mp, .ref a_me, .int mth, .int mrq, .ref a_mq, .long mtr, .ref a_mr, .ref a_mo, .int mos, .ref a_ml, .ref a_mt, .ref a_mf])), (a_me, .inl (kA, 42, .inl meF))] H → va_D A [(a_m, .inr (7, [.int mkd, .int mrt, .int mri, .int mca, .int mpr, .int men, .ref a_mp, .ref a_me, .int mth, .int mrq, .ref a_mq, .long mtr, .ref a_mr, .ref a_mo, .int mos, .ref a_ml, .ref a_mt, .ref a_mf])), (a_me, .inl (kA, 42, .inl meF))] → va_S A s.heap H locs → lv_has ls 9 [(0, .ref a_m), (1, .long v1_4), (5, .int v5_44), (6, .long v6_61)] → W p l e (headSpec wsX7_lower rmX7_lower).room s m args below meth c H locs 0 0 Q (F0 m 124 ls []) := by
                        intro  h H locs ls hP hD hS hl
                        replace h := hR124  h
                        refine lv_lload hx hb dX7_lower_124 (lv_at hl 3 rfl) ?_
                        refine lv_goto (tgt := 130) hx hb dX7_lower_126 (by decide) ?_
                        exact hJ130 v6_61 h _ _ _ hP hD hS (lv_sub hl [0, 1, 2] rfl)
                      refine lv_if_lt (tgt := 124) hx hb dX7_lower_114 (by decide) (fun c114 => ?_) (fun c114 => ?_)
                      · replace h := h.1 c114
                        exact hJ124 h _ _ _ hP hD hS (lv_sub hl [0, 1, 3, 4] rfl)
                      · replace h := h.2 c114
                        refine lv_lload hx hb dX7_lower_117 (lv_at hl 4 rfl) ?_
                        refine lv_lload_n hx hb dX7_lower_119 rfl (lv_at hl 2 rfl) ?_
                        refine W.lcmp hx hb dX7_lower_120 ?_
                        refine lv_if_ge (tgt := 129) hx hb dX7_lower_121 (by decide) (fun c121 => ?_) (fun c121 => ?_)
                        · replace h := h.1 c121
                          refine lv_lload_n hx hb dX7_lower_129 rfl (lv_at hl 2 rfl) ?_
                          exact hJ130 v3_44 h _ _ _ hP hD hS (lv_sub hl [0, 1, 3] rfl)
                        · replace h := h.2 c121
                          exact hJ124 h _ _ _ hP hD hS (lv_sub hl [0, 1, 3, 4] rfl)
                    · replace h := h.2 c67
                      refine lv_lload hx hb dX7_lower_70 (lv_at hl 4 rfl) ?_
                      refine lv_aload_n hx hb dX7_lower_72 rfl (lv_at hl 0 rfl) ?_
                      refine va_get (D := (dC, dI)) (ci := 7) (v := .ref a_me) (C := RX7) (T := TX7) (N := 18) hx hb hts (fun _ h => List.mem_cons_of_mem _ (List.mem_append_right _ h)) hown hK hP 0 rfl rfl 7 (by decide) (hts (.fieldLink RX7 26 "RentOrBuyModel" "endShare" "[I") (List.mem_cons_of_mem _ (List.mem_append_left _ (List.mem_of_getElem? (i := 1) rfl)))) (fun _ h9 => h9) rfl dX7_lower_73 ?_
                      refine lv_iload hx hb dX7_lower_76 (lv_at hl 5 rfl) ?_
                      obtain ⟨hi78, h⟩ := h
                      refine va_iald hx hb hK hP 1 0 rfl rfl hi78 dX7_lower_78 ?_
                      refine lv_i2l hx hb dX7_lower_79 rfl ?_
                      refine lv_ldc2 (v := (1000000 : Int64)) hx hb hown (hts (.constantLong RX7 117 (1000000)) (List.mem_cons_of_mem _ (List.mem_append_left _ (List.mem_of_getElem? (i := 3) rfl)))) dX7_lower_80 ?_
                      refine lv_aload_n hx hb dX7_lower_83 rfl (lv_at hl 0 rfl) ?_
                      refine lv_iload hx hb dX7_lower_84 (lv_at hl 3 rfl) ?_
                      refine lv_iload hx hb dX7_lower_86 (lv_at hl 5 rfl) ?_
                      have hPc := hP.sub (ws' := [(a_m, .inr (7, [.int mkd, .int mrt, .int mri, .int mca, .int mpr, .int men, .ref a_mp, .ref a_me, .int mth, .int mrq, .ref a_mq, .long mtr, .ref a_mr, .ref a_mo, .int mos, .ref a_ml, .ref a_mt, .ref a_mf]))]) [0] rfl
                      have hDc := hD.sub (ws' := [(a_m, .inr (7, [.int mkd, .int mrt, .int mri, .int mca, .int mpr, .int men, .ref a_mp, .ref a_me, .int mth, .int mrq, .ref a_mq, .long mtr, .ref a_mr, .ref a_mo, .int mos, .ref a_ml, .ref a_mt, .ref a_mf]))]) [0] (by decide) rfl
                      refine fr_i (wr := [(a_me, .inl (kA, 42, .inl meF))]) (WN := fun (u88 : Unit) => [(a_m, .inr (7, [.int mkd, .int mrt, .int mri, .int mca, .int mpr, .int men, .ref a_mp, .ref a_me, .int mth, .int mrq, .ref a_mq, .long mtr, .ref a_mr, .ref a_mo, .int mos, .ref a_ml, .ref a_mt, .ref a_mf])), (a_me, .inl (kA, 42, .inl meF))]) (va_runV (As := [.int v5_44, .int v8_61]) (rest := [.long (1000000 : Int64), .long ((meF v8_61.toNatClampNeg).toInt64), .long v6_61]) ⟨hx, hb, hml, hown, hts⟩ (c_X7_costOf l dC dI kA a_m a_mp a_me a_mq a_mr a_mo a_ml a_mt a_mf H.size mkd mrt mri mca mpr men mth mrq mtr mos v5_44 v8_61 _ h) (cwV 2 hts gX7_lower_X7_costOf rfl rfl rfl (by decide +kernel) ⟨Nat.le_of_ble_eq_true rfl, Nat.le_of_ble_eq_true rfl⟩) (prW.preV (ci := 7) (q0 := 0) hPc hDc hK hN rfl rfl) rfl rfl hl.1 rfl (lv_room (Nat.le_of_ble_eq_true rfl)) dX7_lower_88 ⟨Nat.le_of_ble_eq_true rfl, Nat.le_of_ble_eq_true rfl⟩) hP hD hS hA [0] [1] rfl rfl (by decide) (by decide) [1, 0] (by decide) (fun _ => rfl) (fun r88 u88 H locs h hP hD hS => ?_)
                      have hP : va_P (dC, dI) vwCl [(a_m, .inr (7, [.int mkd, .int mrt, .int mri, .int mca, .int mpr, .int men, .ref a_mp, .ref a_me, .int mth, .int mrq, .ref a_mq, .long mtr, .ref a_mr, .ref a_mo, .int mos, .ref a_ml, .ref a_mt, .ref a_mf])), (a_me, .inl (kA, 42, .inl meF))] H := hP
                      have hD : va_D A [(a_m, .inr (7, [.int mkd, .int mrt, .int mri, .int mca, .int mpr, .int men, .ref a_mp, .ref a_me, .int mth, .int mrq, .ref a_mq, .long mtr, .ref a_mr, .ref a_mo, .int mos, .ref a_ml, .ref a_mt, .ref a_mf])), (a_me, .inl (kA, 42, .inl meF))] := hD
                      refine lv_i2l hx hb dX7_lower_91 rfl ?_
                      refine lv_lmul hx hb dX7_lower_92 ?_
                      refine lv_aload_n hx hb dX7_lower_93 rfl (lv_at hl 0 rfl) ?_
                      refine lv_iload hx hb dX7_lower_94 (lv_at hl 5 rfl) ?_
                      have hPc := hP.sub (ws' := [(a_m, .inr (7, [.int mkd, .int mrt, .int mri, .int mca, .int mpr, .int men, .ref a_mp, .ref a_me, .int mth, .int mrq, .ref a_mq, .long mtr, .ref a_mr, .ref a_mo, .int mos, .ref a_ml, .ref a_mt, .ref a_mf]))]) [0] rfl
                      have hDc := hD.sub (ws' := [(a_m, .inr (7, [.int mkd, .int mrt, .int mri, .int mca, .int mpr, .int men, .ref a_mp, .ref a_me, .int mth, .int mrq, .ref a_mq, .long mtr, .ref a_mr, .ref a_mo, .int mos, .ref a_ml, .ref a_mt, .ref a_mf]))]) [0] (by decide) rfl
                      refine fr_i (wr := [(a_me, .inl (kA, 42, .inl meF))]) (WN := fun (u96 : Unit) => [(a_m, .inr (7, [.int mkd, .int mrt, .int mri, .int mca, .int mpr, .int men, .ref a_mp, .ref a_me, .int mth, .int mrq, .ref a_mq, .long mtr, .ref a_mr, .ref a_mo, .int mos, .ref a_ml, .ref a_mt, .ref a_mf])), (a_me, .inl (kA, 42, .inl meF))]) (va_runV (As := [.int v8_61]) (rest := [.long ((1000000 : Int64) * r88.toInt64), .long ((meF v8_61.toNatClampNeg).toInt64), .long v6_61]) ⟨hx, hb, hml, hown, hts⟩ (c_X7_knownBy l dC dI kA a_m a_mp a_me a_mq a_mr a_mo a_ml a_mt a_mf H.size mkd mrt mri mca mpr men mth mrq mtr mos v8_61 _ h) (cwV 1 hts gX7_lower_X7_knownBy rfl rfl rfl (by decide +kernel) ⟨Nat.le_of_ble_eq_true rfl, Nat.le_of_ble_eq_true rfl⟩) (prW.preV (ci := 7) (q0 := 0) hPc hDc hK hN rfl rfl) rfl rfl hl.1 rfl (lv_room (Nat.le_of_ble_eq_true rfl)) dX7_lower_96 ⟨Nat.le_of_ble_eq_true rfl, Nat.le_of_ble_eq_true rfl⟩) hP hD hS hA [0] [1] rfl rfl (by decide) (by decide) [1, 0] (by decide) (fun _ => rfl) (fun r96 u96 H locs h hP hD hS => ?_)
                      have hP : va_P (dC, dI) vwCl [(a_m, .inr (7, [.int mkd, .int mrt, .int mri, .int mca, .int mpr, .int men, .ref a_mp, .ref a_me, .int mth, .int mrq, .ref a_mq, .long mtr, .ref a_mr, .ref a_mo, .int mos, .ref a_ml, .ref a_mt, .ref a_mf])), (a_me, .inl (kA, 42, .inl meF))] H := hP
                      have hD : va_D A [(a_m, .inr (7, [.int mkd, .int mrt, .int mri, .int mca, .int mpr, .int men, .ref a_mp, .ref a_me, .int mth, .int mrq, .ref a_mq, .long mtr, .ref a_mr, .ref a_mo, .int mos, .ref a_ml, .ref a_mt, .ref a_mf])), (a_me, .inl (kA, 42, .inl meF))] := hD
                      refine lv_i2l hx hb dX7_lower_99 rfl ?_
                      obtain ⟨hz100, h⟩ := h
                      refine lv_ldiv hx hb dX7_lower_100 hz100 ?_
                      refine lv_lmul hx hb dX7_lower_101 ?_
                      refine lv_ladd hx hb dX7_lower_102 ?_
                      refine lv_lstore (lv' := [(6, .long (v6_61 + (((meF v8_61.toNatClampNeg).toInt64) * (((1000000 : Int64) * r88.toInt64) / r96.toInt64)))), (0, .ref a_m), (1, .long v1_4), (3, .long v3_44), (5, .int v5_44), (8, .int v8_61)]) hx hb dX7_lower_103 hl (by decide) rfl (fun ls hl => ?_)
                      refine lv_iinc (v := (v8_61 + (1 : Int32))) (lv' := [(8, .int (v8_61 + (1 : Int32))), (6, .long (v6_61 + (((meF v8_61.toNatClampNeg).toInt64) * (((1000000 : Int64) * r88.toInt64) / r96.toInt64)))), (0, .ref a_m), (1, .long v1_4), (3, .long v3_44), (5, .int v5_44)]) hx hb dX7_lower_105 hl (k := 5) rfl (by rfl) (by decide) rfl (fun ls hl => ?_)
                      refine lv_goto (tgt := 61) hx hb dX7_lower_108 (by decide) ?_
                      exact ih61 (v6_61 + (((meF v8_61.toNatClampNeg).toInt64) * (((1000000 : Int64) * r88.toInt64) / r96.toInt64))) (v8_61 + (1 : Int32)) h _ _ _ hP hD hS (lv_sub hl [2, 3, 4, 5, 1, 0] rfl)
                exact hL61 n61 (0 : Int64) (1 : Int32) h _ _ _ hP hD hS (lv_sub hl [2, 3, 4, 5, 1, 0] rfl)
          exact hL44 n44 (-1 : Int64) (1 : Int32) h _ _ _ hP hD hS (lv_sub hl [2, 3, 1, 0] rfl)
        · replace h := h.2 c31
          refine lv_bipush (v := (-2 : Int32)) hx hb dX7_lower_34 (by decide +kernel) ?_
          rw [hQ]
          exact rt_i () hx hb hr hlocks h hP hD hS dX7_lower_36
      · replace h := h.2 c9
        refine lv_lload_n hx hb dX7_lower_12 rfl (lv_at hl 1 rfl) ?_
        refine lv_aload_n hx hb dX7_lower_13 rfl (lv_at hl 0 rfl) ?_
        refine va_get (D := (dC, dI)) (ci := 7) (v := .ref a_me) (C := RX7) (T := TX7) (N := 18) hx hb hts (fun _ h => List.mem_cons_of_mem _ (List.mem_append_right _ h)) hown hK hP 0 rfl rfl 7 (by decide) (hts (.fieldLink RX7 26 "RentOrBuyModel" "endShare" "[I") (List.mem_cons_of_mem _ (List.mem_append_left _ (List.mem_of_getElem? (i := 1) rfl)))) (fun _ h9 => h9) rfl dX7_lower_14 ?_
        refine lv_iload_n hx hb dX7_lower_17 rfl (lv_at hl 2 rfl) ?_
        obtain ⟨hi18, h⟩ := h
        refine va_iald hx hb hK hP 1 0 rfl rfl hi18 dX7_lower_18 ?_
        refine lv_i2l hx hb dX7_lower_19 rfl ?_
        refine lv_ladd hx hb dX7_lower_20 ?_
        refine lv_lstore_n (lv' := [(1, .long (v1_4 + ((meF v3_4.toNatClampNeg).toInt64))), (0, .ref a_m), (3, .int v3_4)]) hx hb dX7_lower_21 rfl hl (by decide) rfl (fun ls hl => ?_)
        refine lv_iinc (v := (v3_4 + (1 : Int32))) (lv' := [(3, .int (v3_4 + (1 : Int32))), (1, .long (v1_4 + ((meF v3_4.toNatClampNeg).toInt64))), (0, .ref a_m)]) hx hb dX7_lower_22 hl (k := 2) rfl (by rfl) (by decide) rfl (fun ls hl => ?_)
        refine lv_goto (tgt := 4) hx hb dX7_lower_25 (by decide) ?_
        exact ih4 (v1_4 + ((meF v3_4.toNatClampNeg).toInt64)) (v3_4 + (1 : Int32)) h _ _ _ hP hD hS (lv_sub hl [2, 1, 0] rfl)
  exact hL4 n4 (0 : Int64) (1 : Int32) h _ _ _ hP hD hS (lv_sub hl [2, 1, 0] rfl)

/-- RentOrBuyModel.planShares -/
def rmX7_planShares : Room := { frames := 0, cells := 0, slots := 0, locals := 0 }
set_option maxHeartbeats 4000000 in
set_option maxRecDepth 100000 in
theorem c_X7_planShares (l : Launch) (dC : Nat → ClassId) (dI : Nat → Nat → Nat) (kA : ClassId) (a_m a_mp a_me a_mq a_mr a_mo a_ml a_mt a_mf : Nat) (sz : Nat) (mkd : Int32) (mrt : Int32) (mri : Int32) (mca : Int32) (mpr : Int32) (men : Int32) (mth : Int32) (mrq : Int32) (mtr : Int64) (mos : Int32) (mpF : Nat → Int32) (K : Int64 → Prop) (hg : g_X7_planShares mkd mrt mri mca mpr men mth mrq mtr mos mpF K) : Met l yX7_planShares wsX7_planShares rmX7_planShares (va_Pc [.ref a_m] (prW (dC, dI) kA sz [(a_m, .inr (7, [.int mkd, .int mrt, .int mri, .int mca, .int mpr, .int men, .ref a_mp, .ref a_me, .int mth, .int mrq, .ref a_mq, .long mtr, .ref a_mr, .ref a_mo, .int mos, .ref a_ml, .ref a_mt, .ref a_mf])), (a_mp, .inl (kA, 42, .inl mpF))])) (va_Ql (fun (r : Int64) (u : Unit) => K r) (poW (dC, dI) (va_A [(a_m, .inr (7, [.int mkd, .int mrt, .int mri, .int mca, .int mpr, .int men, .ref a_mp, .ref a_me, .int mth, .int mrq, .ref a_mq, .long mtr, .ref a_mr, .ref a_mo, .int mos, .ref a_ml, .ref a_mt, .ref a_mf])), (a_mp, .inl (kA, 42, .inl mpF))] sz) (fun (u : Unit) => [(a_m, .inr (7, [.int mkd, .int mrt, .int mri, .int mca, .int mpr, .int men, .ref a_mp, .ref a_me, .int mth, .int mrq, .ref a_mq, .long mtr, .ref a_mr, .ref a_mo, .int mos, .ref a_ml, .ref a_mt, .ref a_mf])), (a_mp, .inl (kA, 42, .inl mpF))])) (va_A [(a_m, .inr (7, [.int mkd, .int mrt, .int mri, .int mca, .int mpr, .int men, .ref a_mp, .ref a_me, .int mth, .int mrq, .ref a_mq, .long mtr, .ref a_mr, .ref a_mo, .int mos, .ref a_ml, .ref a_mt, .ref a_mf])), (a_mp, .inl (kA, 42, .inl mpF))] sz)) 0 0 (va_A [(a_m, .inr (7, [.int mkd, .int mrt, .int mri, .int mca, .int mpr, .int men, .ref a_mp, .ref a_me, .int mth, .int mrq, .ref a_mq, .long mtr, .ref a_mr, .ref a_mo, .int mos, .ref a_ml, .ref a_mt, .ref a_mf])), (a_mp, .inl (kA, 42, .inl mpF))] sz) := by
  refine Met.ofW (cc := cX7_planShares) (maxL := 4) (ret := (some .long)) (by decide) rfl ?_
  intro p e s m args below meth c s₁ B hml hv
  obtain ⟨hargs, hsz, hP, hK, hD0, hN⟩ := hv
  have hx := B.exec
  have hb := B.bytes
  have hr := B.returns
  have hts := atoms_spec (ws := wsX7_planShares) B.pre
  have hown : s.vm.findClass RX7 = some m.cls := findClass_of_methodNamed B.named
  have hlocks := B.notSynchronized
  subst hsz
  have hD := hD0.self (sz := s.heap.size)
  generalize hAe : va_A [(a_m, .inr (7, [.int mkd, .int mrt, .int mri, .int mca, .int mpr, .int men, .ref a_mp, .ref a_me, .int mth, .int mrq, .ref a_mq, .long mtr, .ref a_mr, .ref a_mo, .int mos, .ref a_ml, .ref a_mt, .ref a_mf])), (a_mp, .inl (kA, 42, .inl mpF))] s.heap.size = A at hD ⊢
  have hA : ∀ q : Nat, s.heap.size ≤ q → A q := fun q h => by rw [← hAe]; exact Or.inr h
  have hS : va_S A s.heap s.heap [] := va_S.rf
  obtain ⟨Q, hQ⟩ : ∃ Q : State → Prop, Q = MQ below (va_Ql (fun (r : Int64) (u : Unit) => K r) (poW (dC, dI) A (fun (u : Unit) => [(a_m, .inr (7, [.int mkd, .int mrt, .int mri, .int mca, .int mpr, .int men, .ref a_mp, .ref a_me, .int mth, .int mrq, .ref a_mq, .long mtr, .ref a_mr, .ref a_mo, .int mos, .ref a_ml, .ref a_mt, .ref a_mf])), (a_mp, .inl (kA, 42, .inl mpF))])) A) args s 0 0 A := ⟨_, rfl⟩
  rw [← hQ]
  have hP : va_P (dC, dI) vwCl [(a_m, .inr (7, [.int mkd, .int mrt, .int mri, .int mca, .int mpr, .int men, .ref a_mp, .ref a_me, .int mth, .int mrq, .ref a_mq, .long mtr, .ref a_mr, .ref a_mo, .int mos, .ref a_ml, .ref a_mt, .ref a_mf])), (a_mp, .inl (kA, 42, .inl mpF))] s.heap := hP
  refine en_ok hargs (Nat.le_of_ble_eq_true rfl) (fun ls hl => ?_)
  have hl : lv_has ls 4 [(0, .ref a_m)] := hl
  have h := hg
  unfold g_X7_planShares at h
  refine lv_lconst (v := (0 : Int64)) hx hb dX7_planShares_0 (by decide +kernel) ?_
  refine lv_lstore_n (lv' := [(1, .long (0 : Int64)), (0, .ref a_m)]) hx hb dX7_planShares_1 rfl hl (by decide) rfl (fun ls hl => ?_)
  refine lv_iconst (v := (1 : Int32)) hx hb dX7_planShares_2 (by decide +kernel) ?_
  refine lv_istore_n (lv' := [(3, .int (1 : Int32)), (1, .long (0 : Int64)), (0, .ref a_m)]) hx hb dX7_planShares_3 rfl hl (by decide) rfl (fun ls hl => ?_)
  obtain ⟨J4, ⟨n4, h⟩, hz4, hs4⟩ := h
  have hL4 : ∀ (n4 : Nat) (v1_4 : Int64) (v3_4 : Int32), J4 n4 v1_4 v3_4 → ∀ (H : Heap) (locs : List Loc) (ls : Array Slot), va_P (dC, dI) vwCl [(a_m, .inr (7, [.int mkd, .int mrt, .int mri, .int mca, .int mpr, .int men, .ref a_mp, .ref a_me, .int mth, .int mrq, .ref a_mq, .long mtr, .ref a_mr, .ref a_mo, .int mos, .ref a_ml, .ref a_mt, .ref a_mf])), (a_mp, .inl (kA, 42, .inl mpF))] H → va_D A [(a_m, .inr (7, [.int mkd, .int mrt, .int mri, .int mca, .int mpr, .int men, .ref a_mp, .ref a_me, .int mth, .int mrq, .ref a_mq, .long mtr, .ref a_mr, .ref a_mo, .int mos, .ref a_ml, .ref a_mt, .ref a_mf])), (a_mp, .inl (kA, 42, .inl mpF))] → va_S A s.heap H locs → lv_has ls 4 [(0, .ref a_m), (1, .long v1_4), (3, .int v3_4)] → W p l e (headSpec wsX7_planShares rmX7_planShares).room s m args below meth c H locs 0 0 Q (F0 m 4 ls []) := by
    intro n4
    induction n4 with
    | zero => intro v1_4 v3_4 h; exact absurd h (hz4 v1_4 v3_4)
    | succ n4 ih4 =>
      intro v1_4 v3_4 h H locs ls hP hD hS hl
      replace h := hs4 n4 v1_4 v3_4 h
      refine lv_iload_n hx hb dX7_planShares_4 rfl (lv_at hl 2 rfl) ?_
      refine lv_aload_n hx hb dX7_planShares_5 rfl (lv_at hl 0 rfl) ?_
      refine va_get (D := (dC, dI)) (ci := 7) (v := .int men) (C := RX7) (T := TX7) (N := 18) hx hb hts (fun _ h => List.mem_cons_of_mem _ (List.mem_append_right _ h)) hown hK hP 0 rfl rfl 5 (by decide) (hts (.fieldLink RX7 19 "RentOrBuyModel" "ends" "I") (List.mem_cons_of_mem _ (List.mem_append_left _ (List.mem_of_getElem? (i := 0) rfl)))) (fun _ h9 => h9) rfl dX7_planShares_6 ?_
      refine lv_iconst (v := (1 : Int32)) hx hb dX7_planShares_9 (by decide +kernel) ?_
      refine lv_iadd hx hb dX7_planShares_10 ?_
      refine lv_icmp_gt (tgt := 30) hx hb dX7_planShares_11 (by decide) (fun c11 => ?_) (fun c11 => ?_)
      · replace h := h.1 c11
        refine lv_lload_n hx hb dX7_planShares_30 rfl (lv_at hl 1 rfl) ?_
        rw [hQ]
        exact rt_l () hx hb hr hlocks h hP hD hS dX7_planShares_31
      · replace h := h.2 c11
        refine lv_lload_n hx hb dX7_planShares_14 rfl (lv_at hl 1 rfl) ?_
        refine lv_aload_n hx hb dX7_planShares_15 rfl (lv_at hl 0 rfl) ?_
        refine va_get (D := (dC, dI)) (ci := 7) (v := .ref a_mp) (C := RX7) (T := TX7) (N := 18) hx hb hts (fun _ h => List.mem_cons_of_mem _ (List.mem_append_right _ h)) hown hK hP 0 rfl rfl 6 (by decide) (hts (.fieldLink RX7 22 "RentOrBuyModel" "planShare" "[I") (List.mem_cons_of_mem _ (List.mem_append_left _ (List.mem_of_getElem? (i := 1) rfl)))) (fun _ h9 => h9) rfl dX7_planShares_16 ?_
        refine lv_iload_n hx hb dX7_planShares_19 rfl (lv_at hl 2 rfl) ?_
        obtain ⟨hi20, h⟩ := h
        refine va_iald hx hb hK hP 1 0 rfl rfl hi20 dX7_planShares_20 ?_
        refine lv_i2l hx hb dX7_planShares_21 rfl ?_
        refine lv_ladd hx hb dX7_planShares_22 ?_
        refine lv_lstore_n (lv' := [(1, .long (v1_4 + ((mpF v3_4.toNatClampNeg).toInt64))), (0, .ref a_m), (3, .int v3_4)]) hx hb dX7_planShares_23 rfl hl (by decide) rfl (fun ls hl => ?_)
        refine lv_iinc (v := (v3_4 + (1 : Int32))) (lv' := [(3, .int (v3_4 + (1 : Int32))), (1, .long (v1_4 + ((mpF v3_4.toNatClampNeg).toInt64))), (0, .ref a_m)]) hx hb dX7_planShares_24 hl (k := 2) rfl (by rfl) (by decide) rfl (fun ls hl => ?_)
        refine lv_goto (tgt := 4) hx hb dX7_planShares_27 (by decide) ?_
        exact ih4 (v1_4 + ((mpF v3_4.toNatClampNeg).toInt64)) (v3_4 + (1 : Int32)) h _ _ _ hP hD hS (lv_sub hl [2, 1, 0] rfl)
  exact hL4 n4 (0 : Int64) (1 : Int32) h _ _ _ hP hD hS (lv_sub hl [2, 1, 0] rfl)

/-- RentOrBuyModel.weighed -/
def rmX7_weighed : Room := { frames := 3, cells := 0, slots := 0, locals := 67 }
set_option maxHeartbeats 4000000 in
set_option maxRecDepth 100000 in
theorem c_X7_weighed (l : Launch) (dC : Nat → ClassId) (dI : Nat → Nat → Nat) (kA : ClassId) (a_m a_mp a_me a_mq a_mr a_mo a_ml a_mt a_mf : Nat) (sz : Nat) (mkd : Int32) (mrt : Int32) (mri : Int32) (mca : Int32) (mpr : Int32) (men : Int32) (mth : Int32) (mrq : Int32) (mtr : Int64) (mos : Int32) (mpF : Nat → Int32) (p1 : Int32) (K : Int64 → Prop) (hg : g_X7_weighed mkd mrt mri mca mpr men mth mrq mtr mos mpF p1 K) : Met l yX7_weighed wsX7_weighed rmX7_weighed (va_Pc [.ref a_m, .int p1] (prW (dC, dI) kA sz [(a_m, .inr (7, [.int mkd, .int mrt, .int mri, .int mca, .int mpr, .int men, .ref a_mp, .ref a_me, .int mth, .int mrq, .ref a_mq, .long mtr, .ref a_mr, .ref a_mo, .int mos, .ref a_ml, .ref a_mt, .ref a_mf])), (a_mp, .inl (kA, 42, .inl mpF))])) (va_Ql (fun (r : Int64) (u : Unit) => K r) (poW (dC, dI) (va_A [(a_m, .inr (7, [.int mkd, .int mrt, .int mri, .int mca, .int mpr, .int men, .ref a_mp, .ref a_me, .int mth, .int mrq, .ref a_mq, .long mtr, .ref a_mr, .ref a_mo, .int mos, .ref a_ml, .ref a_mt, .ref a_mf])), (a_mp, .inl (kA, 42, .inl mpF))] sz) (fun (u : Unit) => [(a_m, .inr (7, [.int mkd, .int mrt, .int mri, .int mca, .int mpr, .int men, .ref a_mp, .ref a_me, .int mth, .int mrq, .ref a_mq, .long mtr, .ref a_mr, .ref a_mo, .int mos, .ref a_ml, .ref a_mt, .ref a_mf])), (a_mp, .inl (kA, 42, .inl mpF))])) (va_A [(a_m, .inr (7, [.int mkd, .int mrt, .int mri, .int mca, .int mpr, .int men, .ref a_mp, .ref a_me, .int mth, .int mrq, .ref a_mq, .long mtr, .ref a_mr, .ref a_mo, .int mos, .ref a_ml, .ref a_mt, .ref a_mf])), (a_mp, .inl (kA, 42, .inl mpF))] sz)) 0 0 (va_A [(a_m, .inr (7, [.int mkd, .int mrt, .int mri, .int mca, .int mpr, .int men, .ref a_mp, .ref a_me, .int mth, .int mrq, .ref a_mq, .long mtr, .ref a_mr, .ref a_mo, .int mos, .ref a_ml, .ref a_mt, .ref a_mf])), (a_mp, .inl (kA, 42, .inl mpF))] sz) := by
  refine Met.ofW (cc := cX7_weighed) (maxL := 5) (ret := (some .long)) (by decide) rfl ?_
  intro p e s m args below meth c s₁ B hml hv
  obtain ⟨hargs, hsz, hP, hK, hD0, hN⟩ := hv
  have hx := B.exec
  have hb := B.bytes
  have hr := B.returns
  have hts := atoms_spec (ws := wsX7_weighed) B.pre
  have hown : s.vm.findClass RX7 = some m.cls := findClass_of_methodNamed B.named
  have hlocks := B.notSynchronized
  subst hsz
  have hD := hD0.self (sz := s.heap.size)
  generalize hAe : va_A [(a_m, .inr (7, [.int mkd, .int mrt, .int mri, .int mca, .int mpr, .int men, .ref a_mp, .ref a_me, .int mth, .int mrq, .ref a_mq, .long mtr, .ref a_mr, .ref a_mo, .int mos, .ref a_ml, .ref a_mt, .ref a_mf])), (a_mp, .inl (kA, 42, .inl mpF))] s.heap.size = A at hD ⊢
  have hA : ∀ q : Nat, s.heap.size ≤ q → A q := fun q h => by rw [← hAe]; exact Or.inr h
  have hS : va_S A s.heap s.heap [] := va_S.rf
  obtain ⟨Q, hQ⟩ : ∃ Q : State → Prop, Q = MQ below (va_Ql (fun (r : Int64) (u : Unit) => K r) (poW (dC, dI) A (fun (u : Unit) => [(a_m, .inr (7, [.int mkd, .int mrt, .int mri, .int mca, .int mpr, .int men, .ref a_mp, .ref a_me, .int mth, .int mrq, .ref a_mq, .long mtr, .ref a_mr, .ref a_mo, .int mos, .ref a_ml, .ref a_mt, .ref a_mf])), (a_mp, .inl (kA, 42, .inl mpF))])) A) args s 0 0 A := ⟨_, rfl⟩
  rw [← hQ]
  have hP : va_P (dC, dI) vwCl [(a_m, .inr (7, [.int mkd, .int mrt, .int mri, .int mca, .int mpr, .int men, .ref a_mp, .ref a_me, .int mth, .int mrq, .ref a_mq, .long mtr, .ref a_mr, .ref a_mo, .int mos, .ref a_ml, .ref a_mt, .ref a_mf])), (a_mp, .inl (kA, 42, .inl mpF))] s.heap := hP
  refine en_ok hargs (Nat.le_of_ble_eq_true rfl) (fun ls hl => ?_)
  have hl : lv_has ls 5 [(0, .ref a_m), (1, .int p1)] := hl
  have h := hg
  unfold g_X7_weighed at h
  refine lv_lconst (v := (0 : Int64)) hx hb dX7_weighed_0 (by decide +kernel) ?_
  refine lv_lstore_n (lv' := [(2, .long (0 : Int64)), (0, .ref a_m), (1, .int p1)]) hx hb dX7_weighed_1 rfl hl (by decide) rfl (fun ls hl => ?_)
  refine lv_iconst (v := (1 : Int32)) hx hb dX7_weighed_2 (by decide +kernel) ?_
  refine lv_istore (lv' := [(4, .int (1 : Int32)), (2, .long (0 : Int64)), (0, .ref a_m), (1, .int p1)]) hx hb dX7_weighed_3 hl (by decide) rfl (fun ls hl => ?_)
  obtain ⟨J5, ⟨n5, h⟩, hz5, hs5⟩ := h
  have hL5 : ∀ (n5 : Nat) (v2_5 : Int64) (v4_5 : Int32), J5 n5 v2_5 v4_5 → ∀ (H : Heap) (locs : List Loc) (ls : Array Slot), va_P (dC, dI) vwCl [(a_m, .inr (7, [.int mkd, .int mrt, .int mri, .int mca, .int mpr, .int men, .ref a_mp, .ref a_me, .int mth, .int mrq, .ref a_mq, .long mtr, .ref a_mr, .ref a_mo, .int mos, .ref a_ml, .ref a_mt, .ref a_mf])), (a_mp, .inl (kA, 42, .inl mpF))] H → va_D A [(a_m, .inr (7, [.int mkd, .int mrt, .int mri, .int mca, .int mpr, .int men, .ref a_mp, .ref a_me, .int mth, .int mrq, .ref a_mq, .long mtr, .ref a_mr, .ref a_mo, .int mos, .ref a_ml, .ref a_mt, .ref a_mf])), (a_mp, .inl (kA, 42, .inl mpF))] → va_S A s.heap H locs → lv_has ls 5 [(0, .ref a_m), (1, .int p1), (2, .long v2_5), (4, .int v4_5)] → W p l e (headSpec wsX7_weighed rmX7_weighed).room s m args below meth c H locs 0 0 Q (F0 m 5 ls []) := by
    intro n5
    induction n5 with
    | zero => intro v2_5 v4_5 h; exact absurd h (hz5 v2_5 v4_5)
    | succ n5 ih5 =>
      intro v2_5 v4_5 h H locs ls hP hD hS hl
      replace h := hs5 n5 v2_5 v4_5 h
      refine lv_iload hx hb dX7_weighed_5 (lv_at hl 3 rfl) ?_
      refine lv_aload_n hx hb dX7_weighed_7 rfl (lv_at hl 0 rfl) ?_
      refine va_get (D := (dC, dI)) (ci := 7) (v := .int men) (C := RX7) (T := TX7) (N := 18) hx hb hts (fun _ h => List.mem_cons_of_mem _ (List.mem_append_right _ h)) hown hK hP 0 rfl rfl 5 (by decide) (hts (.fieldLink RX7 19 "RentOrBuyModel" "ends" "I") (List.mem_cons_of_mem _ (List.mem_append_left _ (List.mem_of_getElem? (i := 0) rfl)))) (fun _ h9 => h9) rfl dX7_weighed_8 ?_
      refine lv_iconst (v := (1 : Int32)) hx hb dX7_weighed_11 (by decide +kernel) ?_
      refine lv_iadd hx hb dX7_weighed_12 ?_
      refine lv_icmp_gt (tgt := 42) hx hb dX7_weighed_13 (by decide) (fun c13 => ?_) (fun c13 => ?_)
      · replace h := h.1 c13
        refine lv_lload_n hx hb dX7_weighed_42 rfl (lv_at hl 2 rfl) ?_
        rw [hQ]
        exact rt_l () hx hb hr hlocks h hP hD hS dX7_weighed_43
      · replace h := h.2 c13
        refine lv_lload_n hx hb dX7_weighed_16 rfl (lv_at hl 2 rfl) ?_
        refine lv_aload_n hx hb dX7_weighed_17 rfl (lv_at hl 0 rfl) ?_
        refine va_get (D := (dC, dI)) (ci := 7) (v := .ref a_mp) (C := RX7) (T := TX7) (N := 18) hx hb hts (fun _ h => List.mem_cons_of_mem _ (List.mem_append_right _ h)) hown hK hP 0 rfl rfl 6 (by decide) (hts (.fieldLink RX7 22 "RentOrBuyModel" "planShare" "[I") (List.mem_cons_of_mem _ (List.mem_append_left _ (List.mem_of_getElem? (i := 1) rfl)))) (fun _ h9 => h9) rfl dX7_weighed_18 ?_
        refine lv_iload hx hb dX7_weighed_21 (lv_at hl 3 rfl) ?_
        obtain ⟨hi23, h⟩ := h
        refine va_iald hx hb hK hP 1 0 rfl rfl hi23 dX7_weighed_23 ?_
        refine lv_i2l hx hb dX7_weighed_24 rfl ?_
        refine lv_aload_n hx hb dX7_weighed_25 rfl (lv_at hl 0 rfl) ?_
        refine lv_iload hx hb dX7_weighed_26 (lv_at hl 3 rfl) ?_
        refine lv_iload_n hx hb dX7_weighed_28 rfl (lv_at hl 1 rfl) ?_
        have hPc := hP.sub (ws' := [(a_m, .inr (7, [.int mkd, .int mrt, .int mri, .int mca, .int mpr, .int men, .ref a_mp, .ref a_me, .int mth, .int mrq, .ref a_mq, .long mtr, .ref a_mr, .ref a_mo, .int mos, .ref a_ml, .ref a_mt, .ref a_mf]))]) [0] rfl
        have hDc := hD.sub (ws' := [(a_m, .inr (7, [.int mkd, .int mrt, .int mri, .int mca, .int mpr, .int men, .ref a_mp, .ref a_me, .int mth, .int mrq, .ref a_mq, .long mtr, .ref a_mr, .ref a_mo, .int mos, .ref a_ml, .ref a_mt, .ref a_mf]))]) [0] (by decide) rfl
        refine fr_i (wr := [(a_mp, .inl (kA, 42, .inl mpF))]) (WN := fun (u29 : Unit) => [(a_m, .inr (7, [.int mkd, .int mrt, .int mri, .int mca, .int mpr, .int men, .ref a_mp, .ref a_me, .int mth, .int mrq, .ref a_mq, .long mtr, .ref a_mr, .ref a_mo, .int mos, .ref a_ml, .ref a_mt, .ref a_mf])), (a_mp, .inl (kA, 42, .inl mpF))]) (va_runV (As := [.int v4_5, .int p1]) (rest := [.long ((mpF v4_5.toNatClampNeg).toInt64), .long v2_5]) ⟨hx, hb, hml, hown, hts⟩ (c_X7_costOf l dC dI kA a_m a_mp a_me a_mq a_mr a_mo a_ml a_mt a_mf H.size mkd mrt mri mca mpr men mth mrq mtr mos v4_5 p1 _ h) (cwV 2 hts gX7_weighed_X7_costOf rfl rfl rfl (by decide +kernel) ⟨Nat.le_of_ble_eq_true rfl, Nat.le_of_ble_eq_true rfl⟩) (prW.preV (ci := 7) (q0 := 0) hPc hDc hK hN rfl rfl) rfl rfl hl.1 rfl (lv_room (Nat.le_of_ble_eq_true rfl)) dX7_weighed_29 ⟨Nat.le_of_ble_eq_true rfl, Nat.le_of_ble_eq_true rfl⟩) hP hD hS hA [0] [1] rfl rfl (by decide) (by decide) [1, 0] (by decide) (fun _ => rfl) (fun r29 u29 H locs h hP hD hS => ?_)
        have hP : va_P (dC, dI) vwCl [(a_m, .inr (7, [.int mkd, .int mrt, .int mri, .int mca, .int mpr, .int men, .ref a_mp, .ref a_me, .int mth, .int mrq, .ref a_mq, .long mtr, .ref a_mr, .ref a_mo, .int mos, .ref a_ml, .ref a_mt, .ref a_mf])), (a_mp, .inl (kA, 42, .inl mpF))] H := hP
        have hD : va_D A [(a_m, .inr (7, [.int mkd, .int mrt, .int mri, .int mca, .int mpr, .int men, .ref a_mp, .ref a_me, .int mth, .int mrq, .ref a_mq, .long mtr, .ref a_mr, .ref a_mo, .int mos, .ref a_ml, .ref a_mt, .ref a_mf])), (a_mp, .inl (kA, 42, .inl mpF))] := hD
        refine lv_i2l hx hb dX7_weighed_32 rfl ?_
        refine lv_lmul hx hb dX7_weighed_33 ?_
        refine lv_ladd hx hb dX7_weighed_34 ?_
        refine lv_lstore_n (lv' := [(2, .long (v2_5 + (((mpF v4_5.toNatClampNeg).toInt64) * r29.toInt64))), (0, .ref a_m), (1, .int p1), (4, .int v4_5)]) hx hb dX7_weighed_35 rfl hl (by decide) rfl (fun ls hl => ?_)
        refine lv_iinc (v := (v4_5 + (1 : Int32))) (lv' := [(4, .int (v4_5 + (1 : Int32))), (2, .long (v2_5 + (((mpF v4_5.toNatClampNeg).toInt64) * r29.toInt64))), (0, .ref a_m), (1, .int p1)]) hx hb dX7_weighed_36 hl (k := 3) rfl (by rfl) (by decide) rfl (fun ls hl => ?_)
        refine lv_goto (tgt := 5) hx hb dX7_weighed_39 (by decide) ?_
        exact ih5 (v2_5 + (((mpF v4_5.toNatClampNeg).toInt64) * r29.toInt64)) (v4_5 + (1 : Int32)) h _ _ _ hP hD hS (lv_sub hl [2, 3, 1, 0] rfl)
  exact hL5 n5 (0 : Int64) (1 : Int32) h _ _ _ hP hD hS (lv_sub hl [2, 3, 1, 0] rfl)

/-- RentOrBuyModel.upper -/
def rmX7_upper : Room := { frames := 4, cells := 0, slots := 0, locals := 91 }
set_option maxHeartbeats 4000000 in
set_option maxRecDepth 100000 in
theorem c_X7_upper (l : Launch) (dC : Nat → ClassId) (dI : Nat → Nat → Nat) (kA : ClassId) (a_m a_mp a_me a_mq a_mr a_mo a_ml a_mt a_mf : Nat) (sz : Nat) (mkd : Int32) (mrt : Int32) (mri : Int32) (mca : Int32) (mpr : Int32) (men : Int32) (mth : Int32) (mrq : Int32) (mtr : Int64) (mos : Int32) (mpF : Nat → Int32) (K : Int32 → Prop) (hg : g_X7_upper mkd mrt mri mca mpr men mth mrq mtr mos mpF K) : Met l yX7_upper wsX7_upper rmX7_upper (va_Pc [.ref a_m] (prW (dC, dI) kA sz [(a_m, .inr (7, [.int mkd, .int mrt, .int mri, .int mca, .int mpr, .int men, .ref a_mp, .ref a_me, .int mth, .int mrq, .ref a_mq, .long mtr, .ref a_mr, .ref a_mo, .int mos, .ref a_ml, .ref a_mt, .ref a_mf])), (a_mp, .inl (kA, 42, .inl mpF))])) (va_Qi (fun (r : Int32) (u : Unit) => K r) (poW (dC, dI) (va_A [(a_m, .inr (7, [.int mkd, .int mrt, .int mri, .int mca, .int mpr, .int men, .ref a_mp, .ref a_me, .int mth, .int mrq, .ref a_mq, .long mtr, .ref a_mr, .ref a_mo, .int mos, .ref a_ml, .ref a_mt, .ref a_mf])), (a_mp, .inl (kA, 42, .inl mpF))] sz) (fun (u : Unit) => [(a_m, .inr (7, [.int mkd, .int mrt, .int mri, .int mca, .int mpr, .int men, .ref a_mp, .ref a_me, .int mth, .int mrq, .ref a_mq, .long mtr, .ref a_mr, .ref a_mo, .int mos, .ref a_ml, .ref a_mt, .ref a_mf])), (a_mp, .inl (kA, 42, .inl mpF))])) (va_A [(a_m, .inr (7, [.int mkd, .int mrt, .int mri, .int mca, .int mpr, .int men, .ref a_mp, .ref a_me, .int mth, .int mrq, .ref a_mq, .long mtr, .ref a_mr, .ref a_mo, .int mos, .ref a_ml, .ref a_mt, .ref a_mf])), (a_mp, .inl (kA, 42, .inl mpF))] sz)) 0 0 (va_A [(a_m, .inr (7, [.int mkd, .int mrt, .int mri, .int mca, .int mpr, .int men, .ref a_mp, .ref a_me, .int mth, .int mrq, .ref a_mq, .long mtr, .ref a_mr, .ref a_mo, .int mos, .ref a_ml, .ref a_mt, .ref a_mf])), (a_mp, .inl (kA, 42, .inl mpF))] sz) := by
  refine Met.ofW (cc := cX7_upper) (maxL := 10) (ret := (some .int)) (by decide) rfl ?_
  intro p e s m args below meth c s₁ B hml hv
  obtain ⟨hargs, hsz, hP, hK, hD0, hN⟩ := hv
  have hx := B.exec
  have hb := B.bytes
  have hr := B.returns
  have hts := atoms_spec (ws := wsX7_upper) B.pre
  have hown : s.vm.findClass RX7 = some m.cls := findClass_of_methodNamed B.named
  have hlocks := B.notSynchronized
  subst hsz
  have hD := hD0.self (sz := s.heap.size)
  generalize hAe : va_A [(a_m, .inr (7, [.int mkd, .int mrt, .int mri, .int mca, .int mpr, .int men, .ref a_mp, .ref a_me, .int mth, .int mrq, .ref a_mq, .long mtr, .ref a_mr, .ref a_mo, .int mos, .ref a_ml, .ref a_mt, .ref a_mf])), (a_mp, .inl (kA, 42, .inl mpF))] s.heap.size = A at hD ⊢
  have hA : ∀ q : Nat, s.heap.size ≤ q → A q := fun q h => by rw [← hAe]; exact Or.inr h
  have hS : va_S A s.heap s.heap [] := va_S.rf
  obtain ⟨Q, hQ⟩ : ∃ Q : State → Prop, Q = MQ below (va_Qi (fun (r : Int32) (u : Unit) => K r) (poW (dC, dI) A (fun (u : Unit) => [(a_m, .inr (7, [.int mkd, .int mrt, .int mri, .int mca, .int mpr, .int men, .ref a_mp, .ref a_me, .int mth, .int mrq, .ref a_mq, .long mtr, .ref a_mr, .ref a_mo, .int mos, .ref a_ml, .ref a_mt, .ref a_mf])), (a_mp, .inl (kA, 42, .inl mpF))])) A) args s 0 0 A := ⟨_, rfl⟩
  rw [← hQ]
  have hP : va_P (dC, dI) vwCl [(a_m, .inr (7, [.int mkd, .int mrt, .int mri, .int mca, .int mpr, .int men, .ref a_mp, .ref a_me, .int mth, .int mrq, .ref a_mq, .long mtr, .ref a_mr, .ref a_mo, .int mos, .ref a_ml, .ref a_mt, .ref a_mf])), (a_mp, .inl (kA, 42, .inl mpF))] s.heap := hP
  refine en_ok hargs (Nat.le_of_ble_eq_true rfl) (fun ls hl => ?_)
  have hl : lv_has ls 10 [(0, .ref a_m)] := hl
  have h := hg
  unfold g_X7_upper at h
  refine lv_aload_n hx hb dX7_upper_0 rfl (lv_at hl 0 rfl) ?_
  have hPc := hP.sub (ws' := [(a_m, .inr (7, [.int mkd, .int mrt, .int mri, .int mca, .int mpr, .int men, .ref a_mp, .ref a_me, .int mth, .int mrq, .ref a_mq, .long mtr, .ref a_mr, .ref a_mo, .int mos, .ref a_ml, .ref a_mt, .ref a_mf])), (a_mp, .inl (kA, 42, .inl mpF))]) [0, 1] rfl
  have hDc := hD.sub (ws' := [(a_m, .inr (7, [.int mkd, .int mrt, .int mri, .int mca, .int mpr, .int men, .ref a_mp, .ref a_me, .int mth, .int mrq, .ref a_mq, .long mtr, .ref a_mr, .ref a_mo, .int mos, .ref a_ml, .ref a_mt, .ref a_mf])), (a_mp, .inl (kA, 42, .inl mpF))]) [0, 1] (by decide) rfl
  refine fr_l (wr := []) (WN := fun (u1 : Unit) => [(a_m, .inr (7, [.int mkd, .int mrt, .int mri, .int mca, .int mpr, .int men, .ref a_mp, .ref a_me, .int mth, .int mrq, .ref a_mq, .long mtr, .ref a_mr, .ref a_mo, .int mos, .ref a_ml, .ref a_mt, .ref a_mf])), (a_mp, .inl (kA, 42, .inl mpF))]) (va_runV (As := []) (rest := []) ⟨hx, hb, hml, hown, hts⟩ (c_X7_planShares l dC dI kA a_m a_mp a_me a_mq a_mr a_mo a_ml a_mt a_mf s.heap.size mkd mrt mri mca mpr men mth mrq mtr mos mpF _ h) (cwV 0 hts gX7_upper_X7_planShares rfl rfl rfl (by decide +kernel) ⟨Nat.le_of_ble_eq_true rfl, Nat.le_of_ble_eq_true rfl⟩) (prW.preV (ci := 7) (q0 := 0) hPc hDc hK hN rfl rfl) rfl rfl hl.1 rfl (lv_room (Nat.le_of_ble_eq_true rfl)) dX7_upper_1 ⟨Nat.le_of_ble_eq_true rfl, Nat.le_of_ble_eq_true rfl⟩) hP hD hS hA [0, 1] [] rfl rfl (by decide) (by decide) [0, 1] (by decide) (fun _ => rfl) (fun r1 u1 H locs h hP hD hS => ?_)
  have hP : va_P (dC, dI) vwCl [(a_m, .inr (7, [.int mkd, .int mrt, .int mri, .int mca, .int mpr, .int men, .ref a_mp, .ref a_me, .int mth, .int mrq, .ref a_mq, .long mtr, .ref a_mr, .ref a_mo, .int mos, .ref a_ml, .ref a_mt, .ref a_mf])), (a_mp, .inl (kA, 42, .inl mpF))] H := hP
  have hD : va_D A [(a_m, .inr (7, [.int mkd, .int mrt, .int mri, .int mca, .int mpr, .int men, .ref a_mp, .ref a_me, .int mth, .int mrq, .ref a_mq, .long mtr, .ref a_mr, .ref a_mo, .int mos, .ref a_ml, .ref a_mt, .ref a_mf])), (a_mp, .inl (kA, 42, .inl mpF))] := hD
  refine lv_lstore_n (lv' := [(1, .long r1), (0, .ref a_m)]) hx hb dX7_upper_4 rfl hl (by decide) rfl (fun ls hl => ?_)
  refine lv_lload_n hx hb dX7_upper_5 rfl (lv_at hl 0 rfl) ?_
  refine lv_lconst (v := (0 : Int64)) hx hb dX7_upper_6 (by decide +kernel) ?_
  refine W.lcmp hx hb dX7_upper_7 ?_
  refine lv_if_ne (tgt := 14) hx hb dX7_upper_8 (by decide) (fun c8 => ?_) (fun c8 => ?_)
  · replace h := h.1 c8
    refine lv_lconst (v := (0 : Int64)) hx hb dX7_upper_14 (by decide +kernel) ?_
    refine lv_lstore_n (lv' := [(3, .long (0 : Int64)), (1, .long r1), (0, .ref a_m)]) hx hb dX7_upper_15 rfl hl (by decide) rfl (fun ls hl => ?_)
    refine lv_iconst (v := (1 : Int32)) hx hb dX7_upper_16 (by decide +kernel) ?_
    refine lv_istore (lv' := [(5, .int (1 : Int32)), (3, .long (0 : Int64)), (1, .long r1), (0, .ref a_m)]) hx hb dX7_upper_17 hl (by decide) rfl (fun ls hl => ?_)
    obtain ⟨J19, ⟨n19, h⟩, hz19, hs19⟩ := h
    have hL19 : ∀ (n19 : Nat) (v3_19 : Int64) (v5_19 : Int32), J19 n19 v3_19 v5_19 → ∀ (H : Heap) (locs : List Loc) (ls : Array Slot), va_P (dC, dI) vwCl [(a_m, .inr (7, [.int mkd, .int mrt, .int mri, .int mca, .int mpr, .int men, .ref a_mp, .ref a_me, .int mth, .int mrq, .ref a_mq, .long mtr, .ref a_mr, .ref a_mo, .int mos, .ref a_ml, .ref a_mt, .ref a_mf])), (a_mp, .inl (kA, 42, .inl mpF))] H → va_D A [(a_m, .inr (7, [.int mkd, .int mrt, .int mri, .int mca, .int mpr, .int men, .ref a_mp, .ref a_me, .int mth, .int mrq, .ref a_mq, .long mtr, .ref a_mr, .ref a_mo, .int mos, .ref a_ml, .ref a_mt, .ref a_mf])), (a_mp, .inl (kA, 42, .inl mpF))] → va_S A s.heap H locs → lv_has ls 10 [(0, .ref a_m), (1, .long r1), (3, .long v3_19), (5, .int v5_19)] → W p l e (headSpec wsX7_upper rmX7_upper).room s m args below meth c H locs 0 0 Q (F0 m 19 ls []) := by
      intro n19
      induction n19 with
      | zero => intro v3_19 v5_19 h; exact absurd h (hz19 v3_19 v5_19)
      | succ n19 ih19 =>
        intro v3_19 v5_19 h H locs ls hP hD hS hl
        replace h := hs19 n19 v3_19 v5_19 h
        refine lv_iload hx hb dX7_upper_19 (lv_at hl 3 rfl) ?_
        refine lv_aload_n hx hb dX7_upper_21 rfl (lv_at hl 0 rfl) ?_
        refine va_get (D := (dC, dI)) (ci := 7) (v := .int men) (C := RX7) (T := TX7) (N := 18) hx hb hts (fun _ h => List.mem_cons_of_mem _ (List.mem_append_right _ h)) hown hK hP 0 rfl rfl 5 (by decide) (hts (.fieldLink RX7 19 "RentOrBuyModel" "ends" "I") (List.mem_cons_of_mem _ (List.mem_append_left _ (List.mem_of_getElem? (i := 0) rfl)))) (fun _ h9 => h9) rfl dX7_upper_22 ?_
        refine lv_icmp_gt (tgt := 79) hx hb dX7_upper_25 (by decide) (fun c25 => ?_) (fun c25 => ?_)
        · replace h := h.1 c25
          refine lv_lload_n hx hb dX7_upper_79 rfl (lv_at hl 2 rfl) ?_
          refine lv_l2i hx hb dX7_upper_80 rfl ?_
          rw [hQ]
          exact rt_i () hx hb hr hlocks h hP hD hS dX7_upper_81
        · replace h := h.2 c25
          refine lv_lload_n hx hb dX7_upper_28 rfl (lv_at hl 1 rfl) ?_
          refine lv_aload_n hx hb dX7_upper_29 rfl (lv_at hl 0 rfl) ?_
          refine lv_iload hx hb dX7_upper_30 (lv_at hl 3 rfl) ?_
          have hPc := hP.sub (ws' := [(a_m, .inr (7, [.int mkd, .int mrt, .int mri, .int mca, .int mpr, .int men, .ref a_mp, .ref a_me, .int mth, .int mrq, .ref a_mq, .long mtr, .ref a_mr, .ref a_mo, .int mos, .ref a_ml, .ref a_mt, .ref a_mf]))]) [0] rfl
          have hDc := hD.sub (ws' := [(a_m, .inr (7, [.int mkd, .int mrt, .int mri, .int mca, .int mpr, .int men, .ref a_mp, .ref a_me, .int mth, .int mrq, .ref a_mq, .long mtr, .ref a_mr, .ref a_mo, .int mos, .ref a_ml, .ref a_mt, .ref a_mf]))]) [0] (by decide) rfl
          refine fr_i (wr := [(a_mp, .inl (kA, 42, .inl mpF))]) (WN := fun (u32 : Unit) => [(a_m, .inr (7, [.int mkd, .int mrt, .int mri, .int mca, .int mpr, .int men, .ref a_mp, .ref a_me, .int mth, .int mrq, .ref a_mq, .long mtr, .ref a_mr, .ref a_mo, .int mos, .ref a_ml, .ref a_mt, .ref a_mf])), (a_mp, .inl (kA, 42, .inl mpF))]) (va_runV (As := [.int v5_19]) (rest := [.long r1]) ⟨hx, hb, hml, hown, hts⟩ (c_X7_knownBy l dC dI kA a_m a_mp a_me a_mq a_mr a_mo a_ml a_mt a_mf H.size mkd mrt mri mca mpr men mth mrq mtr mos v5_19 _ h) (cwV 1 hts gX7_upper_X7_knownBy rfl rfl rfl (by decide +kernel) ⟨Nat.le_of_ble_eq_true rfl, Nat.le_of_ble_eq_true rfl⟩) (prW.preV (ci := 7) (q0 := 0) hPc hDc hK hN rfl rfl) rfl rfl hl.1 rfl (lv_room (Nat.le_of_ble_eq_true rfl)) dX7_upper_32 ⟨Nat.le_of_ble_eq_true rfl, Nat.le_of_ble_eq_true rfl⟩) hP hD hS hA [0] [1] rfl rfl (by decide) (by decide) [1, 0] (by decide) (fun _ => rfl) (fun r32 u32 H locs h hP hD hS => ?_)
          have hP : va_P (dC, dI) vwCl [(a_m, .inr (7, [.int mkd, .int mrt, .int mri, .int mca, .int mpr, .int men, .ref a_mp, .ref a_me, .int mth, .int mrq, .ref a_mq, .long mtr, .ref a_mr, .ref a_mo, .int mos, .ref a_ml, .ref a_mt, .ref a_mf])), (a_mp, .inl (kA, 42, .inl mpF))] H := hP
          have hD : va_D A [(a_m, .inr (7, [.int mkd, .int mrt, .int mri, .int mca, .int mpr, .int men, .ref a_mp, .ref a_me, .int mth, .int mrq, .ref a_mq, .long mtr, .ref a_mr, .ref a_mo, .int mos, .ref a_ml, .ref a_mt, .ref a_mf])), (a_mp, .inl (kA, 42, .inl mpF))] := hD
          refine lv_i2l hx hb dX7_upper_35 rfl ?_
          refine lv_lmul hx hb dX7_upper_36 ?_
          refine lv_lstore (lv' := [(6, .long (r1 * r32.toInt64)), (0, .ref a_m), (1, .long r1), (3, .long v3_19), (5, .int v5_19)]) hx hb dX7_upper_37 hl (by decide) rfl (fun ls hl => ?_)
          refine lv_ldc2 (v := (1000 : Int64)) hx hb hown (hts (.constantLong RX7 115 (1000)) (List.mem_cons_of_mem _ (List.mem_append_left _ (List.mem_of_getElem? (i := 1) rfl)))) dX7_upper_39 ?_
          refine lv_aload_n hx hb dX7_upper_42 rfl (lv_at hl 1 rfl) ?_
          refine lv_iload hx hb dX7_upper_43 (lv_at hl 4 rfl) ?_
          have hPc := hP.sub (ws' := [(a_m, .inr (7, [.int mkd, .int mrt, .int mri, .int mca, .int mpr, .int men, .ref a_mp, .ref a_me, .int mth, .int mrq, .ref a_mq, .long mtr, .ref a_mr, .ref a_mo, .int mos, .ref a_ml, .ref a_mt, .ref a_mf])), (a_mp, .inl (kA, 42, .inl mpF))]) [0, 1] rfl
          have hDc := hD.sub (ws' := [(a_m, .inr (7, [.int mkd, .int mrt, .int mri, .int mca, .int mpr, .int men, .ref a_mp, .ref a_me, .int mth, .int mrq, .ref a_mq, .long mtr, .ref a_mr, .ref a_mo, .int mos, .ref a_ml, .ref a_mt, .ref a_mf])), (a_mp, .inl (kA, 42, .inl mpF))]) [0, 1] (by decide) rfl
          refine fr_l (wr := []) (WN := fun (u45 : Unit) => [(a_m, .inr (7, [.int mkd, .int mrt, .int mri, .int mca, .int mpr, .int men, .ref a_mp, .ref a_me, .int mth, .int mrq, .ref a_mq, .long mtr, .ref a_mr, .ref a_mo, .int mos, .ref a_ml, .ref a_mt, .ref a_mf])), (a_mp, .inl (kA, 42, .inl mpF))]) (va_runV (As := [.int v5_19]) (rest := [.long (1000 : Int64)]) ⟨hx, hb, hml, hown, hts⟩ (c_X7_weighed l dC dI kA a_m a_mp a_me a_mq a_mr a_mo a_ml a_mt a_mf H.size mkd mrt mri mca mpr men mth mrq mtr mos mpF v5_19 _ h) (cwV 1 hts gX7_upper_X7_weighed rfl rfl rfl (by decide +kernel) ⟨Nat.le_of_ble_eq_true rfl, Nat.le_of_ble_eq_true rfl⟩) (prW.preV (ci := 7) (q0 := 0) hPc hDc hK hN rfl rfl) rfl rfl hl.1 rfl (lv_room (Nat.le_of_ble_eq_true rfl)) dX7_upper_45 ⟨Nat.le_of_ble_eq_true rfl, Nat.le_of_ble_eq_true rfl⟩) hP hD hS hA [0, 1] [] rfl rfl (by decide) (by decide) [0, 1] (by decide) (fun _ => rfl) (fun r45 u45 H locs h hP hD hS => ?_)
          have hP : va_P (dC, dI) vwCl [(a_m, .inr (7, [.int mkd, .int mrt, .int mri, .int mca, .int mpr, .int men, .ref a_mp, .ref a_me, .int mth, .int mrq, .ref a_mq, .long mtr, .ref a_mr, .ref a_mo, .int mos, .ref a_ml, .ref a_mt, .ref a_mf])), (a_mp, .inl (kA, 42, .inl mpF))] H := hP
          have hD : va_D A [(a_m, .inr (7, [.int mkd, .int mrt, .int mri, .int mca, .int mpr, .int men, .ref a_mp, .ref a_me, .int mth, .int mrq, .ref a_mq, .long mtr, .ref a_mr, .ref a_mo, .int mos, .ref a_ml, .ref a_mt, .ref a_mf])), (a_mp, .inl (kA, 42, .inl mpF))] := hD
          refine lv_lmul hx hb dX7_upper_48 ?_
          refine lv_lload hx hb dX7_upper_49 (lv_at hl 0 rfl) ?_
          refine lv_ladd hx hb dX7_upper_51 ?_
          refine lv_lconst (v := (1 : Int64)) hx hb dX7_upper_52 (by decide +kernel) ?_
          refine lv_lsub hx hb dX7_upper_53 ?_
          refine lv_lload hx hb dX7_upper_54 (lv_at hl 0 rfl) ?_
          obtain ⟨hz56, h⟩ := h
          refine lv_ldiv hx hb dX7_upper_56 hz56 ?_
          refine lv_lstore (lv' := [(8, .long (((((1000 : Int64) * r45) + (r1 * r32.toInt64)) - (1 : Int64)) / (r1 * r32.toInt64))), (6, .long (r1 * r32.toInt64)), (0, .ref a_m), (1, .long r1), (3, .long v3_19), (5, .int v5_19)]) hx hb dX7_upper_57 hl (by decide) rfl (fun ls hl => ?_)
          refine lv_lload hx hb dX7_upper_59 (lv_at hl 0 rfl) ?_
          refine lv_lload_n hx hb dX7_upper_61 rfl (lv_at hl 4 rfl) ?_
          refine W.lcmp hx hb dX7_upper_62 ?_
          obtain ⟨J72, hR72, h⟩ := h
          have hJ72 : ∀ (t0_72 : Int64), J72 t0_72 → ∀ (H : Heap) (locs : List Loc) (ls : Array Slot), va_P (dC, dI) vwCl [(a_m, .inr (7, [.int mkd, .int mrt, .int mri, .int mca, .int mpr, .int men, .ref a_mp, .ref a_me, .int mth, .int mrq, .ref a_mq, .long mtr, .ref a_mr, .ref a_mo, .int mos, .ref a_ml, .ref a_mt, .ref a_mf])), (a_mp, .inl (kA, 42, .inl mpF))] H → va_D A [(a_m, .inr (7, [.int mkd, .int mrt, .int mri, .int mca, .int mpr, .int men, .ref a_mp, .ref a_me, .int mth, .int mrq, .ref a_mq, .long mtr, .ref a_mr, .ref a_mo, .int mos, .ref a_ml, .ref a_mt, .ref a_mf])), (a_mp, .inl (kA, 42, .inl mpF))] → va_S A s.heap H locs → lv_has ls 10 [(0, .ref a_m), (1, .long r1), (5, .int v5_19)] → W p l e (headSpec wsX7_upper rmX7_upper).room s m args below meth c H locs 0 0 Q (F0 m 72 ls [.long t0_72]) := by
            intro t0_72 h H locs ls hP hD hS hl
            replace h := hR72 t0_72 h
            refine lv_lstore_n (lv' := [(3, .long t0_72), (0, .ref a_m), (1, .long r1), (5, .int v5_19)]) hx hb dX7_upper_72 rfl hl (by decide) rfl (fun ls hl => ?_)
            refine lv_iinc (v := (v5_19 + (1 : Int32))) (lv' := [(5, .int (v5_19 + (1 : Int32))), (3, .long t0_72), (0, .ref a_m), (1, .long r1)]) hx hb dX7_upper_73 hl (k := 3) rfl (by rfl) (by decide) rfl (fun ls hl => ?_)
            refine lv_goto (tgt := 19) hx hb dX7_upper_76 (by decide) ?_
            exact ih19 t0_72 (v5_19 + (1 : Int32)) h _ _ _ hP hD hS (lv_sub hl [2, 3, 1, 0] rfl)
          refine lv_if_le (tgt := 71) hx hb dX7_upper_63 (by decide) (fun c63 => ?_) (fun c63 => ?_)
          · replace h := h.1 c63
            refine lv_lload_n hx hb dX7_upper_71 rfl (lv_at hl 4 rfl) ?_
            exact hJ72 v3_19 h _ _ _ hP hD hS (lv_sub hl [2, 3, 5] rfl)
          · replace h := h.2 c63
            refine lv_lload hx hb dX7_upper_66 (lv_at hl 0 rfl) ?_
            refine lv_goto (tgt := 72) hx hb dX7_upper_68 (by decide) ?_
            exact hJ72 (((((1000 : Int64) * r45) + (r1 * r32.toInt64)) - (1 : Int64)) / (r1 * r32.toInt64)) h _ _ _ hP hD hS (lv_sub hl [2, 3, 5] rfl)
    exact hL19 n19 (0 : Int64) (1 : Int32) h _ _ _ hP hD hS (lv_sub hl [3, 2, 1, 0] rfl)
  · replace h := h.2 c8
    refine lv_bipush (v := (-2 : Int32)) hx hb dX7_upper_11 (by decide +kernel) ?_
    rw [hQ]
    exact rt_i () hx hb hr hlocks h hP hD hS dX7_upper_13

/-- RentOrBuyModel.bound -/
def rmX7_bound : Room := { frames := 5, cells := 0, slots := 0, locals := 120 }
set_option maxHeartbeats 4000000 in
set_option maxRecDepth 100000 in
theorem c_X7_bound (l : Launch) (dC : Nat → ClassId) (dI : Nat → Nat → Nat) (kA : ClassId) (a_m a_mp a_me a_mq a_mr a_mo a_ml a_mt a_mf : Nat) (sz : Nat) (mkd : Int32) (mrt : Int32) (mri : Int32) (mca : Int32) (mpr : Int32) (men : Int32) (mth : Int32) (mrq : Int32) (mtr : Int64) (mos : Int32) (mpF : Nat → Int32) (meF : Nat → Int32) (p1 : Int32) (K : Int32 → Prop) (hg : g_X7_bound mkd mrt mri mca mpr men mth mrq mtr mos mpF meF p1 K) : Met l yX7_bound wsX7_bound rmX7_bound (va_Pc [.ref a_m, .int p1] (prW (dC, dI) kA sz [(a_m, .inr (7, [.int mkd, .int mrt, .int mri, .int mca, .int mpr, .int men, .ref a_mp, .ref a_me, .int mth, .int mrq, .ref a_mq, .long mtr, .ref a_mr, .ref a_mo, .int mos, .ref a_ml, .ref a_mt, .ref a_mf])), (a_mp, .inl (kA, 42, .inl mpF)), (a_me, .inl (kA, 42, .inl meF))])) (va_Qi (fun (r : Int32) (u : Unit) => K r) (poW (dC, dI) (va_A [(a_m, .inr (7, [.int mkd, .int mrt, .int mri, .int mca, .int mpr, .int men, .ref a_mp, .ref a_me, .int mth, .int mrq, .ref a_mq, .long mtr, .ref a_mr, .ref a_mo, .int mos, .ref a_ml, .ref a_mt, .ref a_mf])), (a_mp, .inl (kA, 42, .inl mpF)), (a_me, .inl (kA, 42, .inl meF))] sz) (fun (u : Unit) => [(a_m, .inr (7, [.int mkd, .int mrt, .int mri, .int mca, .int mpr, .int men, .ref a_mp, .ref a_me, .int mth, .int mrq, .ref a_mq, .long mtr, .ref a_mr, .ref a_mo, .int mos, .ref a_ml, .ref a_mt, .ref a_mf])), (a_mp, .inl (kA, 42, .inl mpF)), (a_me, .inl (kA, 42, .inl meF))])) (va_A [(a_m, .inr (7, [.int mkd, .int mrt, .int mri, .int mca, .int mpr, .int men, .ref a_mp, .ref a_me, .int mth, .int mrq, .ref a_mq, .long mtr, .ref a_mr, .ref a_mo, .int mos, .ref a_ml, .ref a_mt, .ref a_mf])), (a_mp, .inl (kA, 42, .inl mpF)), (a_me, .inl (kA, 42, .inl meF))] sz)) 0 0 (va_A [(a_m, .inr (7, [.int mkd, .int mrt, .int mri, .int mca, .int mpr, .int men, .ref a_mp, .ref a_me, .int mth, .int mrq, .ref a_mq, .long mtr, .ref a_mr, .ref a_mo, .int mos, .ref a_ml, .ref a_mt, .ref a_mf])), (a_mp, .inl (kA, 42, .inl mpF)), (a_me, .inl (kA, 42, .inl meF))] sz) := by
  refine Met.ofW (cc := cX7_bound) (maxL := 2) (ret := (some .int)) (by decide) rfl ?_
  intro p e s m args below meth c s₁ B hml hv
  obtain ⟨hargs, hsz, hP, hK, hD0, hN⟩ := hv
  have hx := B.exec
  have hb := B.bytes
  have hr := B.returns
  have hts := atoms_spec (ws := wsX7_bound) B.pre
  have hown : s.vm.findClass RX7 = some m.cls := findClass_of_methodNamed B.named
  have hlocks := B.notSynchronized
  subst hsz
  have hD := hD0.self (sz := s.heap.size)
  generalize hAe : va_A [(a_m, .inr (7, [.int mkd, .int mrt, .int mri, .int mca, .int mpr, .int men, .ref a_mp, .ref a_me, .int mth, .int mrq, .ref a_mq, .long mtr, .ref a_mr, .ref a_mo, .int mos, .ref a_ml, .ref a_mt, .ref a_mf])), (a_mp, .inl (kA, 42, .inl mpF)), (a_me, .inl (kA, 42, .inl meF))] s.heap.size = A at hD ⊢
  have hA : ∀ q : Nat, s.heap.size ≤ q → A q := fun q h => by rw [← hAe]; exact Or.inr h
  have hS : va_S A s.heap s.heap [] := va_S.rf
  obtain ⟨Q, hQ⟩ : ∃ Q : State → Prop, Q = MQ below (va_Qi (fun (r : Int32) (u : Unit) => K r) (poW (dC, dI) A (fun (u : Unit) => [(a_m, .inr (7, [.int mkd, .int mrt, .int mri, .int mca, .int mpr, .int men, .ref a_mp, .ref a_me, .int mth, .int mrq, .ref a_mq, .long mtr, .ref a_mr, .ref a_mo, .int mos, .ref a_ml, .ref a_mt, .ref a_mf])), (a_mp, .inl (kA, 42, .inl mpF)), (a_me, .inl (kA, 42, .inl meF))])) A) args s 0 0 A := ⟨_, rfl⟩
  rw [← hQ]
  have hP : va_P (dC, dI) vwCl [(a_m, .inr (7, [.int mkd, .int mrt, .int mri, .int mca, .int mpr, .int men, .ref a_mp, .ref a_me, .int mth, .int mrq, .ref a_mq, .long mtr, .ref a_mr, .ref a_mo, .int mos, .ref a_ml, .ref a_mt, .ref a_mf])), (a_mp, .inl (kA, 42, .inl mpF)), (a_me, .inl (kA, 42, .inl meF))] s.heap := hP
  refine en_ok hargs (Nat.le_of_ble_eq_true rfl) (fun ls hl => ?_)
  have hl : lv_has ls 2 [(0, .ref a_m), (1, .int p1)] := hl
  have h := hg
  unfold g_X7_bound at h
  refine lv_iload_n hx hb dX7_bound_0 rfl (lv_at hl 1 rfl) ?_
  refine lv_iconst (v := (0 : Int32)) hx hb dX7_bound_1 (by decide +kernel) ?_
  refine lv_iconst (v := (1 : Int32)) hx hb dX7_bound_2 (by decide +kernel) ?_
  have hPc := hP.sub (ws' := []) [] rfl
  have hDc := hD.sub (ws' := []) [] (by decide) rfl
  refine fr_i (wr := [(a_m, .inr (7, [.int mkd, .int mrt, .int mri, .int mca, .int mpr, .int men, .ref a_mp, .ref a_me, .int mth, .int mrq, .ref a_mq, .long mtr, .ref a_mr, .ref a_mo, .int mos, .ref a_ml, .ref a_mt, .ref a_mf])), (a_mp, .inl (kA, 42, .inl mpF)), (a_me, .inl (kA, 42, .inl meF))]) (WN := fun (u3 : Unit) => [(a_m, .inr (7, [.int mkd, .int mrt, .int mri, .int mca, .int mpr, .int men, .ref a_mp, .ref a_me, .int mth, .int mrq, .ref a_mq, .long mtr, .ref a_mr, .ref a_mo, .int mos, .ref a_ml, .ref a_mt, .ref a_mf])), (a_mp, .inl (kA, 42, .inl mpF)), (a_me, .inl (kA, 42, .inl meF))]) (va_runS (As := [.int p1, .int (0 : Int32), .int (1 : Int32)]) (rest := []) ⟨hx, hb, hml, hown, hts⟩ (c_X7_in l dC dI kA s.heap.size p1 (0 : Int32) (1 : Int32) _ h) (va_cwS 3 hts gX7_bound_X7_in rfl rfl rfl (by decide +kernel) ⟨Nat.le_of_ble_eq_true rfl, Nat.le_of_ble_eq_true rfl⟩) (prW.preS hPc hDc hK hN) rfl rfl hl.1 rfl (lv_room (Nat.le_of_ble_eq_true rfl)) dX7_bound_3 ⟨Nat.le_of_ble_eq_true rfl, Nat.le_of_ble_eq_true rfl⟩) hP hD hS hA [] [0, 1, 2] rfl rfl (by decide) (by decide) [0, 1, 2] (by decide) (fun _ => rfl) (fun r3 u3 H locs h hP hD hS => ?_)
  have hP : va_P (dC, dI) vwCl [(a_m, .inr (7, [.int mkd, .int mrt, .int mri, .int mca, .int mpr, .int men, .ref a_mp, .ref a_me, .int mth, .int mrq, .ref a_mq, .long mtr, .ref a_mr, .ref a_mo, .int mos, .ref a_ml, .ref a_mt, .ref a_mf])), (a_mp, .inl (kA, 42, .inl mpF)), (a_me, .inl (kA, 42, .inl meF))] H := hP
  have hD : va_D A [(a_m, .inr (7, [.int mkd, .int mrt, .int mri, .int mca, .int mpr, .int men, .ref a_mp, .ref a_me, .int mth, .int mrq, .ref a_mq, .long mtr, .ref a_mr, .ref a_mo, .int mos, .ref a_ml, .ref a_mt, .ref a_mf])), (a_mp, .inl (kA, 42, .inl mpF)), (a_me, .inl (kA, 42, .inl meF))] := hD
  refine lv_if_ne (tgt := 13) hx hb dX7_bound_6 (by decide) (fun c6 => ?_) (fun c6 => ?_)
  · replace h := h.1 c6
    refine lv_iload_n hx hb dX7_bound_13 rfl (lv_at hl 1 rfl) ?_
    refine lv_if_ne (tgt := 24) hx hb dX7_bound_14 (by decide) (fun c14 => ?_) (fun c14 => ?_)
    · replace h := h.1 c14
      refine lv_aload_n hx hb dX7_bound_24 rfl (lv_at hl 0 rfl) ?_
      have hPc := hP.sub (ws' := [(a_m, .inr (7, [.int mkd, .int mrt, .int mri, .int mca, .int mpr, .int men, .ref a_mp, .ref a_me, .int mth, .int mrq, .ref a_mq, .long mtr, .ref a_mr, .ref a_mo, .int mos, .ref a_ml, .ref a_mt, .ref a_mf])), (a_me, .inl (kA, 42, .inl meF))]) [0, 2] rfl
      have hDc := hD.sub (ws' := [(a_m, .inr (7, [.int mkd, .int mrt, .int mri, .int mca, .int mpr, .int men, .ref a_mp, .ref a_me, .int mth, .int mrq, .ref a_mq, .long mtr, .ref a_mr, .ref a_mo, .int mos, .ref a_ml, .ref a_mt, .ref a_mf])), (a_me, .inl (kA, 42, .inl meF))]) [0, 2] (by decide) rfl
      refine fr_i (wr := [(a_mp, .inl (kA, 42, .inl mpF))]) (WN := fun (u25 : Unit) => [(a_m, .inr (7, [.int mkd, .int mrt, .int mri, .int mca, .int mpr, .int men, .ref a_mp, .ref a_me, .int mth, .int mrq, .ref a_mq, .long mtr, .ref a_mr, .ref a_mo, .int mos, .ref a_ml, .ref a_mt, .ref a_mf])), (a_mp, .inl (kA, 42, .inl mpF)), (a_me, .inl (kA, 42, .inl meF))]) (va_runV (As := []) (rest := []) ⟨hx, hb, hml, hown, hts⟩ (c_X7_lower l dC dI kA a_m a_me a_mp a_mq a_mr a_mo a_ml a_mt a_mf H.size mkd mrt mri mca mpr men mth mrq mtr mos meF _ h) (cwV 0 hts gX7_bound_X7_lower rfl rfl rfl (by decide +kernel) ⟨Nat.le_of_ble_eq_true rfl, Nat.le_of_ble_eq_true rfl⟩) (prW.preV (ci := 7) (q0 := 0) hPc hDc hK hN rfl rfl) rfl rfl hl.1 rfl (lv_room (Nat.le_of_ble_eq_true rfl)) dX7_bound_25 ⟨Nat.le_of_ble_eq_true rfl, Nat.le_of_ble_eq_true rfl⟩) hP hD hS hA [0, 2] [1] rfl rfl (by decide) (by decide) [1, 0, 2] (by decide) (fun _ => rfl) (fun r25 u25 H locs h hP hD hS => ?_)
      have hP : va_P (dC, dI) vwCl [(a_m, .inr (7, [.int mkd, .int mrt, .int mri, .int mca, .int mpr, .int men, .ref a_mp, .ref a_me, .int mth, .int mrq, .ref a_mq, .long mtr, .ref a_mr, .ref a_mo, .int mos, .ref a_ml, .ref a_mt, .ref a_mf])), (a_mp, .inl (kA, 42, .inl mpF)), (a_me, .inl (kA, 42, .inl meF))] H := hP
      have hD : va_D A [(a_m, .inr (7, [.int mkd, .int mrt, .int mri, .int mca, .int mpr, .int men, .ref a_mp, .ref a_me, .int mth, .int mrq, .ref a_mq, .long mtr, .ref a_mr, .ref a_mo, .int mos, .ref a_ml, .ref a_mt, .ref a_mf])), (a_mp, .inl (kA, 42, .inl mpF)), (a_me, .inl (kA, 42, .inl meF))] := hD
      rw [hQ]
      exact rt_i () hx hb hr hlocks h hP hD hS dX7_bound_28
    · replace h := h.2 c14
      refine lv_aload_n hx hb dX7_bound_17 rfl (lv_at hl 0 rfl) ?_
      have hPc := hP.sub (ws' := [(a_m, .inr (7, [.int mkd, .int mrt, .int mri, .int mca, .int mpr, .int men, .ref a_mp, .ref a_me, .int mth, .int mrq, .ref a_mq, .long mtr, .ref a_mr, .ref a_mo, .int mos, .ref a_ml, .ref a_mt, .ref a_mf])), (a_mp, .inl (kA, 42, .inl mpF))]) [0, 1] rfl
      have hDc := hD.sub (ws' := [(a_m, .inr (7, [.int mkd, .int mrt, .int mri, .int mca, .int mpr, .int men, .ref a_mp, .ref a_me, .int mth, .int mrq, .ref a_mq, .long mtr, .ref a_mr, .ref a_mo, .int mos, .ref a_ml, .ref a_mt, .ref a_mf])), (a_mp, .inl (kA, 42, .inl mpF))]) [0, 1] (by decide) rfl
      refine fr_i (wr := [(a_me, .inl (kA, 42, .inl meF))]) (WN := fun (u18 : Unit) => [(a_m, .inr (7, [.int mkd, .int mrt, .int mri, .int mca, .int mpr, .int men, .ref a_mp, .ref a_me, .int mth, .int mrq, .ref a_mq, .long mtr, .ref a_mr, .ref a_mo, .int mos, .ref a_ml, .ref a_mt, .ref a_mf])), (a_mp, .inl (kA, 42, .inl mpF)), (a_me, .inl (kA, 42, .inl meF))]) (va_runV (As := []) (rest := []) ⟨hx, hb, hml, hown, hts⟩ (c_X7_upper l dC dI kA a_m a_mp a_me a_mq a_mr a_mo a_ml a_mt a_mf H.size mkd mrt mri mca mpr men mth mrq mtr mos mpF _ h) (cwV 0 hts gX7_bound_X7_upper rfl rfl rfl (by decide +kernel) ⟨Nat.le_of_ble_eq_true rfl, Nat.le_of_ble_eq_true rfl⟩) (prW.preV (ci := 7) (q0 := 0) hPc hDc hK hN rfl rfl) rfl rfl hl.1 rfl (lv_room (Nat.le_of_ble_eq_true rfl)) dX7_bound_18 ⟨Nat.le_of_ble_eq_true rfl, Nat.le_of_ble_eq_true rfl⟩) hP hD hS hA [0, 1] [2] rfl rfl (by decide) (by decide) [1, 2, 0] (by decide) (fun _ => rfl) (fun r18 u18 H locs h hP hD hS => ?_)
      have hP : va_P (dC, dI) vwCl [(a_m, .inr (7, [.int mkd, .int mrt, .int mri, .int mca, .int mpr, .int men, .ref a_mp, .ref a_me, .int mth, .int mrq, .ref a_mq, .long mtr, .ref a_mr, .ref a_mo, .int mos, .ref a_ml, .ref a_mt, .ref a_mf])), (a_mp, .inl (kA, 42, .inl mpF)), (a_me, .inl (kA, 42, .inl meF))] H := hP
      have hD : va_D A [(a_m, .inr (7, [.int mkd, .int mrt, .int mri, .int mca, .int mpr, .int men, .ref a_mp, .ref a_me, .int mth, .int mrq, .ref a_mq, .long mtr, .ref a_mr, .ref a_mo, .int mos, .ref a_ml, .ref a_mt, .ref a_mf])), (a_mp, .inl (kA, 42, .inl mpF)), (a_me, .inl (kA, 42, .inl meF))] := hD
      refine lv_goto (tgt := 28) hx hb dX7_bound_21 (by decide) ?_
      rw [hQ]
      exact rt_i () hx hb hr hlocks h hP hD hS dX7_bound_28
  · replace h := h.2 c6
    refine lv_iconst (v := (-1 : Int32)) hx hb dX7_bound_9 (by decide +kernel) ?_
    refine lv_goto (tgt := 28) hx hb dX7_bound_10 (by decide) ?_
    rw [hQ]
    exact rt_i () hx hb hr hlocks h hP hD hS dX7_bound_28

/-- RentOrBuyModel.common -/
def rmX7_common : Room := { frames := 0, cells := 0, slots := 0, locals := 0 }
set_option maxHeartbeats 4000000 in
set_option maxRecDepth 100000 in
theorem c_X7_common (l : Launch) (dC : Nat → ClassId) (dI : Nat → Nat → Nat) (kA : ClassId) (sz : Nat) (p1 : Int64) (p2 : Int64) (K : Int64 → Prop) (hg : g_X7_common p1 p2 K) : Met l yX7_common wsX7_common rmX7_common (va_Pc [.long p1, .long p2] (prW (dC, dI) kA sz [])) (va_Ql (fun (r : Int64) (u : Unit) => K r) (poW (dC, dI) (va_A [] sz) (fun (u : Unit) => [])) (va_A [] sz)) 0 0 (va_A [] sz) := by
  refine Met.ofW (cc := cX7_common) (maxL := 10) (ret := (some .long)) (by decide) rfl ?_
  intro p e s m args below meth c s₁ B hml hv
  obtain ⟨hargs, hsz, hP, hK, hD0, hN⟩ := hv
  have hx := B.exec
  have hb := B.bytes
  have hr := B.returns
  have hts := atoms_spec (ws := wsX7_common) B.pre
  have hown : s.vm.findClass RX7 = some m.cls := findClass_of_methodNamed B.named
  have hlocks := B.notSynchronized
  subst hsz
  have hD := hD0.self (sz := s.heap.size)
  generalize hAe : va_A [] s.heap.size = A at hD ⊢
  have hA : ∀ q : Nat, s.heap.size ≤ q → A q := fun q h => by rw [← hAe]; exact Or.inr h
  have hS : va_S A s.heap s.heap [] := va_S.rf
  obtain ⟨Q, hQ⟩ : ∃ Q : State → Prop, Q = MQ below (va_Ql (fun (r : Int64) (u : Unit) => K r) (poW (dC, dI) A (fun (u : Unit) => [])) A) args s 0 0 A := ⟨_, rfl⟩
  rw [← hQ]
  have hP : va_P (dC, dI) vwCl [] s.heap := hP
  refine en_ok hargs (Nat.le_of_ble_eq_true rfl) (fun ls hl => ?_)
  have hl : lv_has ls 10 [(0, .long p1), (2, .long p2)] := hl
  have h := hg
  unfold g_X7_common at h
  refine lv_lload_n hx hb dX7_common_0 rfl (lv_at hl 0 rfl) ?_
  refine lv_lstore (lv' := [(4, .long p1), (0, .long p1), (2, .long p2)]) hx hb dX7_common_1 hl (by decide) rfl (fun ls hl => ?_)
  refine lv_lload_n hx hb dX7_common_3 rfl (lv_at hl 2 rfl) ?_
  refine lv_lstore (lv' := [(6, .long p2), (4, .long p1), (0, .long p1), (2, .long p2)]) hx hb dX7_common_4 hl (by decide) rfl (fun ls hl => ?_)
  obtain ⟨J6, ⟨n6, h⟩, hz6, hs6⟩ := h
  have hL6 : ∀ (n6 : Nat) (v4_6 : Int64) (v6_6 : Int64), J6 n6 v4_6 v6_6 → ∀ (H : Heap) (locs : List Loc) (ls : Array Slot), va_P (dC, dI) vwCl [] H → va_D A [] → va_S A s.heap H locs → lv_has ls 10 [(4, .long v4_6), (6, .long v6_6)] → W p l e (headSpec wsX7_common rmX7_common).room s m args below meth c H locs 0 0 Q (F0 m 6 ls []) := by
    intro n6
    induction n6 with
    | zero => intro v4_6 v6_6 h; exact absurd h (hz6 v4_6 v6_6)
    | succ n6 ih6 =>
      intro v4_6 v6_6 h H locs ls hP hD hS hl
      replace h := hs6 n6 v4_6 v6_6 h
      refine lv_lload hx hb dX7_common_6 (lv_at hl 1 rfl) ?_
      refine lv_lconst (v := (0 : Int64)) hx hb dX7_common_8 (by decide +kernel) ?_
      refine W.lcmp hx hb dX7_common_9 ?_
      refine lv_if_eq (tgt := 31) hx hb dX7_common_10 (by decide) (fun c10 => ?_) (fun c10 => ?_)
      · replace h := h.1 c10
        refine lv_lload hx hb dX7_common_31 (lv_at hl 0 rfl) ?_
        rw [hQ]
        exact rt_l () hx hb hr hlocks h hP hD hS dX7_common_33
      · replace h := h.2 c10
        refine lv_lload hx hb dX7_common_13 (lv_at hl 0 rfl) ?_
        refine lv_lload hx hb dX7_common_15 (lv_at hl 1 rfl) ?_
        obtain ⟨hz17, h⟩ := h
        refine lv_lrem hx hb dX7_common_17 hz17 ?_
        refine lv_lstore (lv' := [(8, .long (v4_6 - v4_6 / v6_6 * v6_6)), (4, .long v4_6), (6, .long v6_6)]) hx hb dX7_common_18 hl (by decide) rfl (fun ls hl => ?_)
        refine lv_lload hx hb dX7_common_20 (lv_at hl 2 rfl) ?_
        refine lv_lstore (lv' := [(4, .long v6_6), (8, .long (v4_6 - v4_6 / v6_6 * v6_6)), (6, .long v6_6)]) hx hb dX7_common_22 hl (by decide) rfl (fun ls hl => ?_)
        refine lv_lload hx hb dX7_common_24 (lv_at hl 1 rfl) ?_
        refine lv_lstore (lv' := [(6, .long (v4_6 - v4_6 / v6_6 * v6_6)), (4, .long v6_6), (8, .long (v4_6 - v4_6 / v6_6 * v6_6))]) hx hb dX7_common_26 hl (by decide) rfl (fun ls hl => ?_)
        refine lv_goto (tgt := 6) hx hb dX7_common_28 (by decide) ?_
        exact ih6 v6_6 (v4_6 - v4_6 / v6_6 * v6_6) h _ _ _ hP hD hS (lv_sub hl [1, 0] rfl)
  exact hL6 n6 p1 p2 h _ _ _ hP hD hS (lv_sub hl [1, 0] rfl)

/-- RentOrBuyModel.isPlan -/
def rmX7_isPlan : Room := { frames := 1, cells := 0, slots := 0, locals := 22 }
set_option maxHeartbeats 4000000 in
set_option maxRecDepth 100000 in
theorem c_X7_isPlan (l : Launch) (dC : Nat → ClassId) (dI : Nat → Nat → Nat) (kA : ClassId) (a_m a_mp a_me a_mq a_mr a_mo a_ml a_mt a_mf : Nat) (sz : Nat) (mkd : Int32) (mrt : Int32) (mri : Int32) (mca : Int32) (mpr : Int32) (men : Int32) (mth : Int32) (mrq : Int32) (mtr : Int64) (mos : Int32) (p1 : Int32) (K : Int32 → Prop) (hg : g_X7_isPlan mkd mrt mri mca mpr men mth mrq mtr mos p1 K) : Met l yX7_isPlan wsX7_isPlan rmX7_isPlan (va_Pc [.ref a_m, .int p1] (prW (dC, dI) kA sz [(a_m, .inr (7, [.int mkd, .int mrt, .int mri, .int mca, .int mpr, .int men, .ref a_mp, .ref a_me, .int mth, .int mrq, .ref a_mq, .long mtr, .ref a_mr, .ref a_mo, .int mos, .ref a_ml, .ref a_mt, .ref a_mf]))])) (va_Qi (fun (r : Int32) (u : Unit) => K r) (poW (dC, dI) (va_A [(a_m, .inr (7, [.int mkd, .int mrt, .int mri, .int mca, .int mpr, .int men, .ref a_mp, .ref a_me, .int mth, .int mrq, .ref a_mq, .long mtr, .ref a_mr, .ref a_mo, .int mos, .ref a_ml, .ref a_mt, .ref a_mf]))] sz) (fun (u : Unit) => [(a_m, .inr (7, [.int mkd, .int mrt, .int mri, .int mca, .int mpr, .int men, .ref a_mp, .ref a_me, .int mth, .int mrq, .ref a_mq, .long mtr, .ref a_mr, .ref a_mo, .int mos, .ref a_ml, .ref a_mt, .ref a_mf]))])) (va_A [(a_m, .inr (7, [.int mkd, .int mrt, .int mri, .int mca, .int mpr, .int men, .ref a_mp, .ref a_me, .int mth, .int mrq, .ref a_mq, .long mtr, .ref a_mr, .ref a_mo, .int mos, .ref a_ml, .ref a_mt, .ref a_mf]))] sz)) 0 0 (va_A [(a_m, .inr (7, [.int mkd, .int mrt, .int mri, .int mca, .int mpr, .int men, .ref a_mp, .ref a_me, .int mth, .int mrq, .ref a_mq, .long mtr, .ref a_mr, .ref a_mo, .int mos, .ref a_ml, .ref a_mt, .ref a_mf]))] sz) := by
  refine Met.ofW (cc := cX7_isPlan) (maxL := 2) (ret := (some .boolean)) (by decide) rfl ?_
  intro p e s m args below meth c s₁ B hml hv
  obtain ⟨hargs, hsz, hP, hK, hD0, hN⟩ := hv
  have hx := B.exec
  have hb := B.bytes
  have hr := B.returns
  have hts := atoms_spec (ws := wsX7_isPlan) B.pre
  have hown : s.vm.findClass RX7 = some m.cls := findClass_of_methodNamed B.named
  have hlocks := B.notSynchronized
  subst hsz
  have hD := hD0.self (sz := s.heap.size)
  generalize hAe : va_A [(a_m, .inr (7, [.int mkd, .int mrt, .int mri, .int mca, .int mpr, .int men, .ref a_mp, .ref a_me, .int mth, .int mrq, .ref a_mq, .long mtr, .ref a_mr, .ref a_mo, .int mos, .ref a_ml, .ref a_mt, .ref a_mf]))] s.heap.size = A at hD ⊢
  have hA : ∀ q : Nat, s.heap.size ≤ q → A q := fun q h => by rw [← hAe]; exact Or.inr h
  have hS : va_S A s.heap s.heap [] := va_S.rf
  obtain ⟨Q, hQ⟩ : ∃ Q : State → Prop, Q = MQ below (va_Qi (fun (r : Int32) (u : Unit) => K r) (poW (dC, dI) A (fun (u : Unit) => [(a_m, .inr (7, [.int mkd, .int mrt, .int mri, .int mca, .int mpr, .int men, .ref a_mp, .ref a_me, .int mth, .int mrq, .ref a_mq, .long mtr, .ref a_mr, .ref a_mo, .int mos, .ref a_ml, .ref a_mt, .ref a_mf]))])) A) args s 0 0 A := ⟨_, rfl⟩
  rw [← hQ]
  have hP : va_P (dC, dI) vwCl [(a_m, .inr (7, [.int mkd, .int mrt, .int mri, .int mca, .int mpr, .int men, .ref a_mp, .ref a_me, .int mth, .int mrq, .ref a_mq, .long mtr, .ref a_mr, .ref a_mo, .int mos, .ref a_ml, .ref a_mt, .ref a_mf]))] s.heap := hP
  refine en_ok hargs (Nat.le_of_ble_eq_true rfl) (fun ls hl => ?_)
  have hl : lv_has ls 2 [(0, .ref a_m), (1, .int p1)] := hl
  have h := hg
  unfold g_X7_isPlan at h
  refine lv_iload_n hx hb dX7_isPlan_0 rfl (lv_at hl 1 rfl) ?_
  refine lv_iconst (v := (1 : Int32)) hx hb dX7_isPlan_1 (by decide +kernel) ?_
  refine lv_aload_n hx hb dX7_isPlan_2 rfl (lv_at hl 0 rfl) ?_
  refine va_get (D := (dC, dI)) (ci := 7) (v := .int men) (C := RX7) (T := TX7) (N := 18) hx hb hts (fun _ h => List.mem_cons_of_mem _ (List.mem_append_right _ h)) hown hK hP 0 rfl rfl 5 (by decide) (hts (.fieldLink RX7 19 "RentOrBuyModel" "ends" "I") (List.mem_cons_of_mem _ (List.mem_append_left _ (List.mem_of_getElem? (i := 0) rfl)))) (fun _ h9 => h9) rfl dX7_isPlan_3 ?_
  refine lv_iconst (v := (1 : Int32)) hx hb dX7_isPlan_6 (by decide +kernel) ?_
  refine lv_iadd hx hb dX7_isPlan_7 ?_
  have hPc := hP.sub (ws' := []) [] rfl
  have hDc := hD.sub (ws' := []) [] (by decide) rfl
  refine fr_i (wr := [(a_m, .inr (7, [.int mkd, .int mrt, .int mri, .int mca, .int mpr, .int men, .ref a_mp, .ref a_me, .int mth, .int mrq, .ref a_mq, .long mtr, .ref a_mr, .ref a_mo, .int mos, .ref a_ml, .ref a_mt, .ref a_mf]))]) (WN := fun (u8 : Unit) => [(a_m, .inr (7, [.int mkd, .int mrt, .int mri, .int mca, .int mpr, .int men, .ref a_mp, .ref a_me, .int mth, .int mrq, .ref a_mq, .long mtr, .ref a_mr, .ref a_mo, .int mos, .ref a_ml, .ref a_mt, .ref a_mf]))]) (va_runS (As := [.int p1, .int (1 : Int32), .int (men + (1 : Int32))]) (rest := []) ⟨hx, hb, hml, hown, hts⟩ (c_X7_in l dC dI kA s.heap.size p1 (1 : Int32) (men + (1 : Int32)) _ h) (va_cwS 3 hts gX7_isPlan_X7_in rfl rfl rfl (by decide +kernel) ⟨Nat.le_of_ble_eq_true rfl, Nat.le_of_ble_eq_true rfl⟩) (prW.preS hPc hDc hK hN) rfl rfl hl.1 rfl (lv_room (Nat.le_of_ble_eq_true rfl)) dX7_isPlan_8 ⟨Nat.le_of_ble_eq_true rfl, Nat.le_of_ble_eq_true rfl⟩) hP hD hS hA [] [0] rfl rfl (by decide) (by decide) [0] (by decide) (fun _ => rfl) (fun r8 u8 H locs h hP hD hS => ?_)
  have hP : va_P (dC, dI) vwCl [(a_m, .inr (7, [.int mkd, .int mrt, .int mri, .int mca, .int mpr, .int men, .ref a_mp, .ref a_me, .int mth, .int mrq, .ref a_mq, .long mtr, .ref a_mr, .ref a_mo, .int mos, .ref a_ml, .ref a_mt, .ref a_mf]))] H := hP
  have hD : va_D A [(a_m, .inr (7, [.int mkd, .int mrt, .int mri, .int mca, .int mpr, .int men, .ref a_mp, .ref a_me, .int mth, .int mrq, .ref a_mq, .long mtr, .ref a_mr, .ref a_mo, .int mos, .ref a_ml, .ref a_mt, .ref a_mf]))] := hD
  obtain ⟨hzz, h⟩ := h
  rw [hQ]
  exact rt_z () hx hb hr hlocks hzz h hP hD hS dX7_isPlan_11

/-- RentOrBuyModel.isEnd -/
def rmX7_isEnd : Room := { frames := 1, cells := 0, slots := 0, locals := 22 }
set_option maxHeartbeats 4000000 in
set_option maxRecDepth 100000 in
theorem c_X7_isEnd (l : Launch) (dC : Nat → ClassId) (dI : Nat → Nat → Nat) (kA : ClassId) (a_m a_mp a_me a_mq a_mr a_mo a_ml a_mt a_mf : Nat) (sz : Nat) (mkd : Int32) (mrt : Int32) (mri : Int32) (mca : Int32) (mpr : Int32) (men : Int32) (mth : Int32) (mrq : Int32) (mtr : Int64) (mos : Int32) (p1 : Int32) (K : Int32 → Prop) (hg : g_X7_isEnd mkd mrt mri mca mpr men mth mrq mtr mos p1 K) : Met l yX7_isEnd wsX7_isEnd rmX7_isEnd (va_Pc [.ref a_m, .int p1] (prW (dC, dI) kA sz [(a_m, .inr (7, [.int mkd, .int mrt, .int mri, .int mca, .int mpr, .int men, .ref a_mp, .ref a_me, .int mth, .int mrq, .ref a_mq, .long mtr, .ref a_mr, .ref a_mo, .int mos, .ref a_ml, .ref a_mt, .ref a_mf]))])) (va_Qi (fun (r : Int32) (u : Unit) => K r) (poW (dC, dI) (va_A [(a_m, .inr (7, [.int mkd, .int mrt, .int mri, .int mca, .int mpr, .int men, .ref a_mp, .ref a_me, .int mth, .int mrq, .ref a_mq, .long mtr, .ref a_mr, .ref a_mo, .int mos, .ref a_ml, .ref a_mt, .ref a_mf]))] sz) (fun (u : Unit) => [(a_m, .inr (7, [.int mkd, .int mrt, .int mri, .int mca, .int mpr, .int men, .ref a_mp, .ref a_me, .int mth, .int mrq, .ref a_mq, .long mtr, .ref a_mr, .ref a_mo, .int mos, .ref a_ml, .ref a_mt, .ref a_mf]))])) (va_A [(a_m, .inr (7, [.int mkd, .int mrt, .int mri, .int mca, .int mpr, .int men, .ref a_mp, .ref a_me, .int mth, .int mrq, .ref a_mq, .long mtr, .ref a_mr, .ref a_mo, .int mos, .ref a_ml, .ref a_mt, .ref a_mf]))] sz)) 0 0 (va_A [(a_m, .inr (7, [.int mkd, .int mrt, .int mri, .int mca, .int mpr, .int men, .ref a_mp, .ref a_me, .int mth, .int mrq, .ref a_mq, .long mtr, .ref a_mr, .ref a_mo, .int mos, .ref a_ml, .ref a_mt, .ref a_mf]))] sz) := by
  refine Met.ofW (cc := cX7_isEnd) (maxL := 2) (ret := (some .boolean)) (by decide) rfl ?_
  intro p e s m args below meth c s₁ B hml hv
  obtain ⟨hargs, hsz, hP, hK, hD0, hN⟩ := hv
  have hx := B.exec
  have hb := B.bytes
  have hr := B.returns
  have hts := atoms_spec (ws := wsX7_isEnd) B.pre
  have hown : s.vm.findClass RX7 = some m.cls := findClass_of_methodNamed B.named
  have hlocks := B.notSynchronized
  subst hsz
  have hD := hD0.self (sz := s.heap.size)
  generalize hAe : va_A [(a_m, .inr (7, [.int mkd, .int mrt, .int mri, .int mca, .int mpr, .int men, .ref a_mp, .ref a_me, .int mth, .int mrq, .ref a_mq, .long mtr, .ref a_mr, .ref a_mo, .int mos, .ref a_ml, .ref a_mt, .ref a_mf]))] s.heap.size = A at hD ⊢
  have hA : ∀ q : Nat, s.heap.size ≤ q → A q := fun q h => by rw [← hAe]; exact Or.inr h
  have hS : va_S A s.heap s.heap [] := va_S.rf
  obtain ⟨Q, hQ⟩ : ∃ Q : State → Prop, Q = MQ below (va_Qi (fun (r : Int32) (u : Unit) => K r) (poW (dC, dI) A (fun (u : Unit) => [(a_m, .inr (7, [.int mkd, .int mrt, .int mri, .int mca, .int mpr, .int men, .ref a_mp, .ref a_me, .int mth, .int mrq, .ref a_mq, .long mtr, .ref a_mr, .ref a_mo, .int mos, .ref a_ml, .ref a_mt, .ref a_mf]))])) A) args s 0 0 A := ⟨_, rfl⟩
  rw [← hQ]
  have hP : va_P (dC, dI) vwCl [(a_m, .inr (7, [.int mkd, .int mrt, .int mri, .int mca, .int mpr, .int men, .ref a_mp, .ref a_me, .int mth, .int mrq, .ref a_mq, .long mtr, .ref a_mr, .ref a_mo, .int mos, .ref a_ml, .ref a_mt, .ref a_mf]))] s.heap := hP
  refine en_ok hargs (Nat.le_of_ble_eq_true rfl) (fun ls hl => ?_)
  have hl : lv_has ls 2 [(0, .ref a_m), (1, .int p1)] := hl
  have h := hg
  unfold g_X7_isEnd at h
  refine lv_iload_n hx hb dX7_isEnd_0 rfl (lv_at hl 1 rfl) ?_
  refine lv_iconst (v := (1 : Int32)) hx hb dX7_isEnd_1 (by decide +kernel) ?_
  refine lv_aload_n hx hb dX7_isEnd_2 rfl (lv_at hl 0 rfl) ?_
  refine va_get (D := (dC, dI)) (ci := 7) (v := .int men) (C := RX7) (T := TX7) (N := 18) hx hb hts (fun _ h => List.mem_cons_of_mem _ (List.mem_append_right _ h)) hown hK hP 0 rfl rfl 5 (by decide) (hts (.fieldLink RX7 19 "RentOrBuyModel" "ends" "I") (List.mem_cons_of_mem _ (List.mem_append_left _ (List.mem_of_getElem? (i := 0) rfl)))) (fun _ h9 => h9) rfl dX7_isEnd_3 ?_
  have hPc := hP.sub (ws' := []) [] rfl
  have hDc := hD.sub (ws' := []) [] (by decide) rfl
  refine fr_i (wr := [(a_m, .inr (7, [.int mkd, .int mrt, .int mri, .int mca, .int mpr, .int men, .ref a_mp, .ref a_me, .int mth, .int mrq, .ref a_mq, .long mtr, .ref a_mr, .ref a_mo, .int mos, .ref a_ml, .ref a_mt, .ref a_mf]))]) (WN := fun (u6 : Unit) => [(a_m, .inr (7, [.int mkd, .int mrt, .int mri, .int mca, .int mpr, .int men, .ref a_mp, .ref a_me, .int mth, .int mrq, .ref a_mq, .long mtr, .ref a_mr, .ref a_mo, .int mos, .ref a_ml, .ref a_mt, .ref a_mf]))]) (va_runS (As := [.int p1, .int (1 : Int32), .int men]) (rest := []) ⟨hx, hb, hml, hown, hts⟩ (c_X7_in l dC dI kA s.heap.size p1 (1 : Int32) men _ h) (va_cwS 3 hts gX7_isEnd_X7_in rfl rfl rfl (by decide +kernel) ⟨Nat.le_of_ble_eq_true rfl, Nat.le_of_ble_eq_true rfl⟩) (prW.preS hPc hDc hK hN) rfl rfl hl.1 rfl (lv_room (Nat.le_of_ble_eq_true rfl)) dX7_isEnd_6 ⟨Nat.le_of_ble_eq_true rfl, Nat.le_of_ble_eq_true rfl⟩) hP hD hS hA [] [0] rfl rfl (by decide) (by decide) [0] (by decide) (fun _ => rfl) (fun r6 u6 H locs h hP hD hS => ?_)
  have hP : va_P (dC, dI) vwCl [(a_m, .inr (7, [.int mkd, .int mrt, .int mri, .int mca, .int mpr, .int men, .ref a_mp, .ref a_me, .int mth, .int mrq, .ref a_mq, .long mtr, .ref a_mr, .ref a_mo, .int mos, .ref a_ml, .ref a_mt, .ref a_mf]))] H := hP
  have hD : va_D A [(a_m, .inr (7, [.int mkd, .int mrt, .int mri, .int mca, .int mpr, .int men, .ref a_mp, .ref a_me, .int mth, .int mrq, .ref a_mq, .long mtr, .ref a_mr, .ref a_mo, .int mos, .ref a_ml, .ref a_mt, .ref a_mf]))] := hD
  obtain ⟨hzz, h⟩ := h
  rw [hQ]
  exact rt_z () hx hb hr hlocks hzz h hP hD hS dX7_isEnd_9

/-- RentOrBuyModel.cost -/
def rmX7_cost : Room := { frames := 3, cells := 0, slots := 0, locals := 67 }
set_option maxHeartbeats 4000000 in
set_option maxRecDepth 100000 in
theorem c_X7_cost (l : Launch) (dC : Nat → ClassId) (dI : Nat → Nat → Nat) (kA : ClassId) (a_m a_mp a_me a_mq a_mr a_mo a_ml a_mt a_mf : Nat) (sz : Nat) (mkd : Int32) (mrt : Int32) (mri : Int32) (mca : Int32) (mpr : Int32) (men : Int32) (mth : Int32) (mrq : Int32) (mtr : Int64) (mos : Int32) (p1 : Int32) (p2 : Int32) (K : Int32 → Prop) (hg : g_X7_cost mkd mrt mri mca mpr men mth mrq mtr mos p1 p2 K) : Met l yX7_cost wsX7_cost rmX7_cost (va_Pc [.ref a_m, .int p1, .int p2] (prW (dC, dI) kA sz [(a_m, .inr (7, [.int mkd, .int mrt, .int mri, .int mca, .int mpr, .int men, .ref a_mp, .ref a_me, .int mth, .int mrq, .ref a_mq, .long mtr, .ref a_mr, .ref a_mo, .int mos, .ref a_ml, .ref a_mt, .ref a_mf]))])) (va_Qi (fun (r : Int32) (u : Unit) => K r) (poW (dC, dI) (va_A [(a_m, .inr (7, [.int mkd, .int mrt, .int mri, .int mca, .int mpr, .int men, .ref a_mp, .ref a_me, .int mth, .int mrq, .ref a_mq, .long mtr, .ref a_mr, .ref a_mo, .int mos, .ref a_ml, .ref a_mt, .ref a_mf]))] sz) (fun (u : Unit) => [(a_m, .inr (7, [.int mkd, .int mrt, .int mri, .int mca, .int mpr, .int men, .ref a_mp, .ref a_me, .int mth, .int mrq, .ref a_mq, .long mtr, .ref a_mr, .ref a_mo, .int mos, .ref a_ml, .ref a_mt, .ref a_mf]))])) (va_A [(a_m, .inr (7, [.int mkd, .int mrt, .int mri, .int mca, .int mpr, .int men, .ref a_mp, .ref a_me, .int mth, .int mrq, .ref a_mq, .long mtr, .ref a_mr, .ref a_mo, .int mos, .ref a_ml, .ref a_mt, .ref a_mf]))] sz)) 0 0 (va_A [(a_m, .inr (7, [.int mkd, .int mrt, .int mri, .int mca, .int mpr, .int men, .ref a_mp, .ref a_me, .int mth, .int mrq, .ref a_mq, .long mtr, .ref a_mr, .ref a_mo, .int mos, .ref a_ml, .ref a_mt, .ref a_mf]))] sz) := by
  refine Met.ofW (cc := cX7_cost) (maxL := 3) (ret := (some .int)) (by decide) rfl ?_
  intro p e s m args below meth c s₁ B hml hv
  obtain ⟨hargs, hsz, hP, hK, hD0, hN⟩ := hv
  have hx := B.exec
  have hb := B.bytes
  have hr := B.returns
  have hts := atoms_spec (ws := wsX7_cost) B.pre
  have hown : s.vm.findClass RX7 = some m.cls := findClass_of_methodNamed B.named
  have hlocks := B.notSynchronized
  subst hsz
  have hD := hD0.self (sz := s.heap.size)
  generalize hAe : va_A [(a_m, .inr (7, [.int mkd, .int mrt, .int mri, .int mca, .int mpr, .int men, .ref a_mp, .ref a_me, .int mth, .int mrq, .ref a_mq, .long mtr, .ref a_mr, .ref a_mo, .int mos, .ref a_ml, .ref a_mt, .ref a_mf]))] s.heap.size = A at hD ⊢
  have hA : ∀ q : Nat, s.heap.size ≤ q → A q := fun q h => by rw [← hAe]; exact Or.inr h
  have hS : va_S A s.heap s.heap [] := va_S.rf
  obtain ⟨Q, hQ⟩ : ∃ Q : State → Prop, Q = MQ below (va_Qi (fun (r : Int32) (u : Unit) => K r) (poW (dC, dI) A (fun (u : Unit) => [(a_m, .inr (7, [.int mkd, .int mrt, .int mri, .int mca, .int mpr, .int men, .ref a_mp, .ref a_me, .int mth, .int mrq, .ref a_mq, .long mtr, .ref a_mr, .ref a_mo, .int mos, .ref a_ml, .ref a_mt, .ref a_mf]))])) A) args s 0 0 A := ⟨_, rfl⟩
  rw [← hQ]
  have hP : va_P (dC, dI) vwCl [(a_m, .inr (7, [.int mkd, .int mrt, .int mri, .int mca, .int mpr, .int men, .ref a_mp, .ref a_me, .int mth, .int mrq, .ref a_mq, .long mtr, .ref a_mr, .ref a_mo, .int mos, .ref a_ml, .ref a_mt, .ref a_mf]))] s.heap := hP
  refine en_ok hargs (Nat.le_of_ble_eq_true rfl) (fun ls hl => ?_)
  have hl : lv_has ls 3 [(0, .ref a_m), (1, .int p1), (2, .int p2)] := hl
  have h := hg
  unfold g_X7_cost at h
  refine lv_aload_n hx hb dX7_cost_0 rfl (lv_at hl 0 rfl) ?_
  refine lv_iload_n hx hb dX7_cost_1 rfl (lv_at hl 1 rfl) ?_
  have hPc := hP.sub (ws' := [(a_m, .inr (7, [.int mkd, .int mrt, .int mri, .int mca, .int mpr, .int men, .ref a_mp, .ref a_me, .int mth, .int mrq, .ref a_mq, .long mtr, .ref a_mr, .ref a_mo, .int mos, .ref a_ml, .ref a_mt, .ref a_mf]))]) [0] rfl
  have hDc := hD.sub (ws' := [(a_m, .inr (7, [.int mkd, .int mrt, .int mri, .int mca, .int mpr, .int men, .ref a_mp, .ref a_me, .int mth, .int mrq, .ref a_mq, .long mtr, .ref a_mr, .ref a_mo, .int mos, .ref a_ml, .ref a_mt, .ref a_mf]))]) [0] (by decide) rfl
  refine fr_i (wr := []) (WN := fun (u2 : Unit) => [(a_m, .inr (7, [.int mkd, .int mrt, .int mri, .int mca, .int mpr, .int men, .ref a_mp, .ref a_me, .int mth, .int mrq, .ref a_mq, .long mtr, .ref a_mr, .ref a_mo, .int mos, .ref a_ml, .ref a_mt, .ref a_mf]))]) (va_runV (As := [.int p1]) (rest := []) ⟨hx, hb, hml, hown, hts⟩ (c_X7_isPlan l dC dI kA a_m a_mp a_me a_mq a_mr a_mo a_ml a_mt a_mf s.heap.size mkd mrt mri mca mpr men mth mrq mtr mos p1 _ h) (cwV 1 hts gX7_cost_X7_isPlan rfl rfl rfl (by decide +kernel) ⟨Nat.le_of_ble_eq_true rfl, Nat.le_of_ble_eq_true rfl⟩) (prW.preV (ci := 7) (q0 := 0) hPc hDc hK hN rfl rfl) rfl rfl hl.1 rfl (lv_room (Nat.le_of_ble_eq_true rfl)) dX7_cost_2 ⟨Nat.le_of_ble_eq_true rfl, Nat.le_of_ble_eq_true rfl⟩) hP hD hS hA [0] [] rfl rfl (by decide) (by decide) [0] (by decide) (fun _ => rfl) (fun r2 u2 H locs h hP hD hS => ?_)
  have hP : va_P (dC, dI) vwCl [(a_m, .inr (7, [.int mkd, .int mrt, .int mri, .int mca, .int mpr, .int men, .ref a_mp, .ref a_me, .int mth, .int mrq, .ref a_mq, .long mtr, .ref a_mr, .ref a_mo, .int mos, .ref a_ml, .ref a_mt, .ref a_mf]))] H := hP
  have hD : va_D A [(a_m, .inr (7, [.int mkd, .int mrt, .int mri, .int mca, .int mpr, .int men, .ref a_mp, .ref a_me, .int mth, .int mrq, .ref a_mq, .long mtr, .ref a_mr, .ref a_mo, .int mos, .ref a_ml, .ref a_mt, .ref a_mf]))] := hD
  refine lv_if_eq (tgt := 25) hx hb dX7_cost_5 (by decide) (fun c5 => ?_) (fun c5 => ?_)
  · replace h := h.1 c5
    refine lv_iconst (v := (-1 : Int32)) hx hb dX7_cost_25 (by decide +kernel) ?_
    rw [hQ]
    exact rt_i () hx hb hr hlocks h hP hD hS dX7_cost_26
  · replace h := h.2 c5
    refine lv_aload_n hx hb dX7_cost_8 rfl (lv_at hl 0 rfl) ?_
    refine lv_iload_n hx hb dX7_cost_9 rfl (lv_at hl 2 rfl) ?_
    have hPc := hP.sub (ws' := [(a_m, .inr (7, [.int mkd, .int mrt, .int mri, .int mca, .int mpr, .int men, .ref a_mp, .ref a_me, .int mth, .int mrq, .ref a_mq, .long mtr, .ref a_mr, .ref a_mo, .int mos, .ref a_ml, .ref a_mt, .ref a_mf]))]) [0] rfl
    have hDc := hD.sub (ws' := [(a_m, .inr (7, [.int mkd, .int mrt, .int mri, .int mca, .int mpr, .int men, .ref a_mp, .ref a_me, .int mth, .int mrq, .ref a_mq, .long mtr, .ref a_mr, .ref a_mo, .int mos, .ref a_ml, .ref a_mt, .ref a_mf]))]) [0] (by decide) rfl
    refine fr_i (wr := []) (WN := fun (u10 : Unit) => [(a_m, .inr (7, [.int mkd, .int mrt, .int mri, .int mca, .int mpr, .int men, .ref a_mp, .ref a_me, .int mth, .int mrq, .ref a_mq, .long mtr, .ref a_mr, .ref a_mo, .int mos, .ref a_ml, .ref a_mt, .ref a_mf]))]) (va_runV (As := [.int p2]) (rest := []) ⟨hx, hb, hml, hown, hts⟩ (c_X7_isEnd l dC dI kA a_m a_mp a_me a_mq a_mr a_mo a_ml a_mt a_mf H.size mkd mrt mri mca mpr men mth mrq mtr mos p2 _ h) (cwV 1 hts gX7_cost_X7_isEnd rfl rfl rfl (by decide +kernel) ⟨Nat.le_of_ble_eq_true rfl, Nat.le_of_ble_eq_true rfl⟩) (prW.preV (ci := 7) (q0 := 0) hPc hDc hK hN rfl rfl) rfl rfl hl.1 rfl (lv_room (Nat.le_of_ble_eq_true rfl)) dX7_cost_10 ⟨Nat.le_of_ble_eq_true rfl, Nat.le_of_ble_eq_true rfl⟩) hP hD hS hA [0] [] rfl rfl (by decide) (by decide) [0] (by decide) (fun _ => rfl) (fun r10 u10 H locs h hP hD hS => ?_)
    have hP : va_P (dC, dI) vwCl [(a_m, .inr (7, [.int mkd, .int mrt, .int mri, .int mca, .int mpr, .int men, .ref a_mp, .ref a_me, .int mth, .int mrq, .ref a_mq, .long mtr, .ref a_mr, .ref a_mo, .int mos, .ref a_ml, .ref a_mt, .ref a_mf]))] H := hP
    have hD : va_D A [(a_m, .inr (7, [.int mkd, .int mrt, .int mri, .int mca, .int mpr, .int men, .ref a_mp, .ref a_me, .int mth, .int mrq, .ref a_mq, .long mtr, .ref a_mr, .ref a_mo, .int mos, .ref a_ml, .ref a_mt, .ref a_mf]))] := hD
    refine lv_if_eq (tgt := 25) hx hb dX7_cost_13 (by decide) (fun c13 => ?_) (fun c13 => ?_)
    · replace h := h.1 c13
      refine lv_iconst (v := (-1 : Int32)) hx hb dX7_cost_25 (by decide +kernel) ?_
      rw [hQ]
      exact rt_i () hx hb hr hlocks h hP hD hS dX7_cost_26
    · replace h := h.2 c13
      refine lv_aload_n hx hb dX7_cost_16 rfl (lv_at hl 0 rfl) ?_
      refine lv_iload_n hx hb dX7_cost_17 rfl (lv_at hl 1 rfl) ?_
      refine lv_iload_n hx hb dX7_cost_18 rfl (lv_at hl 2 rfl) ?_
      have hPc := hP.sub (ws' := [(a_m, .inr (7, [.int mkd, .int mrt, .int mri, .int mca, .int mpr, .int men, .ref a_mp, .ref a_me, .int mth, .int mrq, .ref a_mq, .long mtr, .ref a_mr, .ref a_mo, .int mos, .ref a_ml, .ref a_mt, .ref a_mf]))]) [0] rfl
      have hDc := hD.sub (ws' := [(a_m, .inr (7, [.int mkd, .int mrt, .int mri, .int mca, .int mpr, .int men, .ref a_mp, .ref a_me, .int mth, .int mrq, .ref a_mq, .long mtr, .ref a_mr, .ref a_mo, .int mos, .ref a_ml, .ref a_mt, .ref a_mf]))]) [0] (by decide) rfl
      refine fr_i (wr := []) (WN := fun (u19 : Unit) => [(a_m, .inr (7, [.int mkd, .int mrt, .int mri, .int mca, .int mpr, .int men, .ref a_mp, .ref a_me, .int mth, .int mrq, .ref a_mq, .long mtr, .ref a_mr, .ref a_mo, .int mos, .ref a_ml, .ref a_mt, .ref a_mf]))]) (va_runV (As := [.int p1, .int p2]) (rest := []) ⟨hx, hb, hml, hown, hts⟩ (c_X7_costOf l dC dI kA a_m a_mp a_me a_mq a_mr a_mo a_ml a_mt a_mf H.size mkd mrt mri mca mpr men mth mrq mtr mos p1 p2 _ h) (cwV 2 hts gX7_cost_X7_costOf rfl rfl rfl (by decide +kernel) ⟨Nat.le_of_ble_eq_true rfl, Nat.le_of_ble_eq_true rfl⟩) (prW.preV (ci := 7) (q0 := 0) hPc hDc hK hN rfl rfl) rfl rfl hl.1 rfl (lv_room (Nat.le_of_ble_eq_true rfl)) dX7_cost_19 ⟨Nat.le_of_ble_eq_true rfl, Nat.le_of_ble_eq_true rfl⟩) hP hD hS hA [0] [] rfl rfl (by decide) (by decide) [0] (by decide) (fun _ => rfl) (fun r19 u19 H locs h hP hD hS => ?_)
      have hP : va_P (dC, dI) vwCl [(a_m, .inr (7, [.int mkd, .int mrt, .int mri, .int mca, .int mpr, .int men, .ref a_mp, .ref a_me, .int mth, .int mrq, .ref a_mq, .long mtr, .ref a_mr, .ref a_mo, .int mos, .ref a_ml, .ref a_mt, .ref a_mf]))] H := hP
      have hD : va_D A [(a_m, .inr (7, [.int mkd, .int mrt, .int mri, .int mca, .int mpr, .int men, .ref a_mp, .ref a_me, .int mth, .int mrq, .ref a_mq, .long mtr, .ref a_mr, .ref a_mo, .int mos, .ref a_ml, .ref a_mt, .ref a_mf]))] := hD
      refine lv_goto (tgt := 26) hx hb dX7_cost_22 (by decide) ?_
      rw [hQ]
      exact rt_i () hx hb hr hlocks h hP hD hS dX7_cost_26

/-- RentOrBuyModel.count -/
def rmX7_count : Room := { frames := 0, cells := 0, slots := 0, locals := 0 }
set_option maxHeartbeats 4000000 in
set_option maxRecDepth 100000 in
theorem c_X7_count (l : Launch) (dC : Nat → ClassId) (dI : Nat → Nat → Nat) (kA : ClassId) (a_m a_mp a_me a_mq a_mr a_mo a_ml a_mt a_mf : Nat) (sz : Nat) (mkd : Int32) (mrt : Int32) (mri : Int32) (mca : Int32) (mpr : Int32) (men : Int32) (mth : Int32) (mrq : Int32) (mtr : Int64) (mos : Int32) (p1 : Int32) (K : Int32 → Prop) (hg : g_X7_count mkd mrt mri mca mpr men mth mrq mtr mos p1 K) : Met l yX7_count wsX7_count rmX7_count (va_Pc [.ref a_m, .int p1] (prW (dC, dI) kA sz [(a_m, .inr (7, [.int mkd, .int mrt, .int mri, .int mca, .int mpr, .int men, .ref a_mp, .ref a_me, .int mth, .int mrq, .ref a_mq, .long mtr, .ref a_mr, .ref a_mo, .int mos, .ref a_ml, .ref a_mt, .ref a_mf]))])) (va_Qi (fun (r : Int32) (u : Unit) => K r) (poW (dC, dI) (va_A [(a_m, .inr (7, [.int mkd, .int mrt, .int mri, .int mca, .int mpr, .int men, .ref a_mp, .ref a_me, .int mth, .int mrq, .ref a_mq, .long mtr, .ref a_mr, .ref a_mo, .int mos, .ref a_ml, .ref a_mt, .ref a_mf]))] sz) (fun (u : Unit) => [(a_m, .inr (7, [.int mkd, .int mrt, .int mri, .int mca, .int mpr, .int men, .ref a_mp, .ref a_me, .int mth, .int mrq, .ref a_mq, .long mtr, .ref a_mr, .ref a_mo, .int mos, .ref a_ml, .ref a_mt, .ref a_mf]))])) (va_A [(a_m, .inr (7, [.int mkd, .int mrt, .int mri, .int mca, .int mpr, .int men, .ref a_mp, .ref a_me, .int mth, .int mrq, .ref a_mq, .long mtr, .ref a_mr, .ref a_mo, .int mos, .ref a_ml, .ref a_mt, .ref a_mf]))] sz)) 0 0 (va_A [(a_m, .inr (7, [.int mkd, .int mrt, .int mri, .int mca, .int mpr, .int men, .ref a_mp, .ref a_me, .int mth, .int mrq, .ref a_mq, .long mtr, .ref a_mr, .ref a_mo, .int mos, .ref a_ml, .ref a_mt, .ref a_mf]))] sz) := by
  refine Met.ofW (cc := cX7_count) (maxL := 2) (ret := (some .int)) (by decide) rfl ?_
  intro p e s m args below meth c s₁ B hml hv
  obtain ⟨hargs, hsz, hP, hK, hD0, hN⟩ := hv
  have hx := B.exec
  have hb := B.bytes
  have hr := B.returns
  have hts := atoms_spec (ws := wsX7_count) B.pre
  have hown : s.vm.findClass RX7 = some m.cls := findClass_of_methodNamed B.named
  have hlocks := B.notSynchronized
  subst hsz
  have hD := hD0.self (sz := s.heap.size)
  generalize hAe : va_A [(a_m, .inr (7, [.int mkd, .int mrt, .int mri, .int mca, .int mpr, .int men, .ref a_mp, .ref a_me, .int mth, .int mrq, .ref a_mq, .long mtr, .ref a_mr, .ref a_mo, .int mos, .ref a_ml, .ref a_mt, .ref a_mf]))] s.heap.size = A at hD ⊢
  have hA : ∀ q : Nat, s.heap.size ≤ q → A q := fun q h => by rw [← hAe]; exact Or.inr h
  have hS : va_S A s.heap s.heap [] := va_S.rf
  obtain ⟨Q, hQ⟩ : ∃ Q : State → Prop, Q = MQ below (va_Qi (fun (r : Int32) (u : Unit) => K r) (poW (dC, dI) A (fun (u : Unit) => [(a_m, .inr (7, [.int mkd, .int mrt, .int mri, .int mca, .int mpr, .int men, .ref a_mp, .ref a_me, .int mth, .int mrq, .ref a_mq, .long mtr, .ref a_mr, .ref a_mo, .int mos, .ref a_ml, .ref a_mt, .ref a_mf]))])) A) args s 0 0 A := ⟨_, rfl⟩
  rw [← hQ]
  have hP : va_P (dC, dI) vwCl [(a_m, .inr (7, [.int mkd, .int mrt, .int mri, .int mca, .int mpr, .int men, .ref a_mp, .ref a_me, .int mth, .int mrq, .ref a_mq, .long mtr, .ref a_mr, .ref a_mo, .int mos, .ref a_ml, .ref a_mt, .ref a_mf]))] s.heap := hP
  refine en_ok hargs (Nat.le_of_ble_eq_true rfl) (fun ls hl => ?_)
  have hl : lv_has ls 2 [(0, .ref a_m), (1, .int p1)] := hl
  have h := hg
  unfold g_X7_count at h
  refine lv_iload_n hx hb dX7_count_0 rfl (lv_at hl 1 rfl) ?_
  by_cases c1_0 : p1 = 0
  · replace h := h.1 c1_0
    refine lv_tableIn (tgt := 32) hx hb dX7_count_1 (by rw [c1_0]; decide) (by rw [c1_0]; decide) (by rw [c1_0]; rfl) (by decide) ?_
    refine lv_aload_n hx hb dX7_count_32 rfl (lv_at hl 0 rfl) ?_
    refine va_get (D := (dC, dI)) (ci := 7) (v := .int men) (C := RX7) (T := TX7) (N := 18) hx hb hts (fun _ h => List.mem_cons_of_mem _ (List.mem_append_right _ h)) hown hK hP 0 rfl rfl 5 (by decide) (hts (.fieldLink RX7 19 "RentOrBuyModel" "ends" "I") (List.mem_cons_of_mem _ (List.mem_append_left _ (List.mem_of_getElem? (i := 0) rfl)))) (fun _ h9 => h9) rfl dX7_count_33 ?_
    rw [hQ]
    exact rt_i () hx hb hr hlocks h hP hD hS dX7_count_36
  · replace h := h.2 c1_0
    by_cases c1_1 : p1 = 1
    · replace h := h.1 c1_1
      refine lv_tableIn (tgt := 37) hx hb dX7_count_1 (by rw [c1_1]; decide) (by rw [c1_1]; decide) (by rw [c1_1]; rfl) (by decide) ?_
      refine lv_aload_n hx hb dX7_count_37 rfl (lv_at hl 0 rfl) ?_
      refine va_get (D := (dC, dI)) (ci := 7) (v := .int mkd) (C := RX7) (T := TX7) (N := 18) hx hb hts (fun _ h => List.mem_cons_of_mem _ (List.mem_append_right _ h)) hown hK hP 0 rfl rfl 0 (by decide) (hts (.fieldLink RX7 53 "RentOrBuyModel" "kind" "I") (List.mem_cons_of_mem _ (List.mem_append_left _ (List.mem_of_getElem? (i := 1) rfl)))) (fun _ h9 => h9) rfl dX7_count_38 ?_
      rw [hQ]
      exact rt_i () hx hb hr hlocks h hP hD hS dX7_count_41
    · replace h := h.2 c1_1
      by_cases c1_2 : p1 = 2
      · replace h := h.1 c1_2
        refine lv_tableIn (tgt := 42) hx hb dX7_count_1 (by rw [c1_2]; decide) (by rw [c1_2]; decide) (by rw [c1_2]; rfl) (by decide) ?_
        refine lv_aload_n hx hb dX7_count_42 rfl (lv_at hl 0 rfl) ?_
        refine va_get (D := (dC, dI)) (ci := 7) (v := .int mth) (C := RX7) (T := TX7) (N := 18) hx hb hts (fun _ h => List.mem_cons_of_mem _ (List.mem_append_right _ h)) hown hK hP 0 rfl rfl 8 (by decide) (hts (.fieldLink RX7 29 "RentOrBuyModel" "things" "I") (List.mem_cons_of_mem _ (List.mem_append_left _ (List.mem_of_getElem? (i := 2) rfl)))) (fun _ h9 => h9) rfl dX7_count_43 ?_
        rw [hQ]
        exact rt_i () hx hb hr hlocks h hP hD hS dX7_count_46
      · replace h := h.2 c1_2
        by_cases c1_3 : p1 = 3
        · replace h := h.1 c1_3
          refine lv_tableIn (tgt := 47) hx hb dX7_count_1 (by rw [c1_3]; decide) (by rw [c1_3]; decide) (by rw [c1_3]; rfl) (by decide) ?_
          refine lv_aload_n hx hb dX7_count_47 rfl (lv_at hl 0 rfl) ?_
          refine va_get (D := (dC, dI)) (ci := 7) (v := .int mrq) (C := RX7) (T := TX7) (N := 18) hx hb hts (fun _ h => List.mem_cons_of_mem _ (List.mem_append_right _ h)) hown hK hP 0 rfl rfl 9 (by decide) (hts (.fieldLink RX7 50 "RentOrBuyModel" "requests" "I") (List.mem_cons_of_mem _ (List.mem_append_left _ (List.mem_of_getElem? (i := 3) rfl)))) (fun _ h9 => h9) rfl dX7_count_48 ?_
          rw [hQ]
          exact rt_i () hx hb hr hlocks h hP hD hS dX7_count_51
        · replace h := h.2 c1_3
          refine lv_tableOut (tgt := 52) hx hb dX7_count_1 (ix4_out c1_0 c1_1 c1_2 c1_3) (by decide) ?_
          refine lv_iconst (v := (-1 : Int32)) hx hb dX7_count_52 (by decide +kernel) ?_
          rw [hQ]
          exact rt_i () hx hb hr hlocks h hP hD hS dX7_count_53

/-- RentOrBuyModel.drop -/
def rmX7_drop : Room := { frames := 0, cells := 0, slots := 0, locals := 0 }
set_option maxHeartbeats 4000000 in
set_option maxRecDepth 100000 in
theorem c_X7_drop (l : Launch) (dC : Nat → ClassId) (dI : Nat → Nat → Nat) (kA : ClassId) (a_m a_mp a_me a_mq a_mr a_mo a_ml a_mt a_mf : Nat) (sz : Nat) (mkd : Int32) (mrt : Int32) (mri : Int32) (mca : Int32) (mpr : Int32) (men : Int32) (mth : Int32) (mrq : Int32) (mtr : Int64) (mos : Int32) (K : Int32 → Int32 → Prop) (hg : g_X7_drop mkd mrt mri mca mpr men mth mrq mtr mos K) : Met l yX7_drop wsX7_drop rmX7_drop (va_Pc [.ref a_m] (prW (dC, dI) kA sz [(a_m, .inr (7, [.int mkd, .int mrt, .int mri, .int mca, .int mpr, .int men, .ref a_mp, .ref a_me, .int mth, .int mrq, .ref a_mq, .long mtr, .ref a_mr, .ref a_mo, .int mos, .ref a_ml, .ref a_mt, .ref a_mf]))])) (va_Qi (fun (r : Int32) (u : Int32) => K r u) (poW (dC, dI) (va_A [(a_m, .inr (7, [.int mkd, .int mrt, .int mri, .int mca, .int mpr, .int men, .ref a_mp, .ref a_me, .int mth, .int mrq, .ref a_mq, .long mtr, .ref a_mr, .ref a_mo, .int mos, .ref a_ml, .ref a_mt, .ref a_mf]))] sz) (fun (u : Int32) => [(a_m, .inr (7, [.int mkd, .int mrt, .int mri, .int mca, .int mpr, .int men, .ref a_mp, .ref a_me, .int mth, .int u, .ref a_mq, .long mtr, .ref a_mr, .ref a_mo, .int mos, .ref a_ml, .ref a_mt, .ref a_mf]))])) (va_A [(a_m, .inr (7, [.int mkd, .int mrt, .int mri, .int mca, .int mpr, .int men, .ref a_mp, .ref a_me, .int mth, .int mrq, .ref a_mq, .long mtr, .ref a_mr, .ref a_mo, .int mos, .ref a_ml, .ref a_mt, .ref a_mf]))] sz)) 0 0 (va_A [(a_m, .inr (7, [.int mkd, .int mrt, .int mri, .int mca, .int mpr, .int men, .ref a_mp, .ref a_me, .int mth, .int mrq, .ref a_mq, .long mtr, .ref a_mr, .ref a_mo, .int mos, .ref a_ml, .ref a_mt, .ref a_mf]))] sz) := by
  refine Met.ofW (cc := cX7_drop) (maxL := 1) (ret := (some .int)) (by decide) rfl ?_
  intro p e s m args below meth c s₁ B hml hv
  obtain ⟨hargs, hsz, hP, hK, hD0, hN⟩ := hv
  have hx := B.exec
  have hb := B.bytes
  have hr := B.returns
  have hts := atoms_spec (ws := wsX7_drop) B.pre
  have hown : s.vm.findClass RX7 = some m.cls := findClass_of_methodNamed B.named
  have hlocks := B.notSynchronized
  subst hsz
  have hD := hD0.self (sz := s.heap.size)
  generalize hAe : va_A [(a_m, .inr (7, [.int mkd, .int mrt, .int mri, .int mca, .int mpr, .int men, .ref a_mp, .ref a_me, .int mth, .int mrq, .ref a_mq, .long mtr, .ref a_mr, .ref a_mo, .int mos, .ref a_ml, .ref a_mt, .ref a_mf]))] s.heap.size = A at hD ⊢
  have hA : ∀ q : Nat, s.heap.size ≤ q → A q := fun q h => by rw [← hAe]; exact Or.inr h
  have hS : va_S A s.heap s.heap [] := va_S.rf
  obtain ⟨Q, hQ⟩ : ∃ Q : State → Prop, Q = MQ below (va_Qi (fun (r : Int32) (u : Int32) => K r u) (poW (dC, dI) A (fun (u : Int32) => [(a_m, .inr (7, [.int mkd, .int mrt, .int mri, .int mca, .int mpr, .int men, .ref a_mp, .ref a_me, .int mth, .int u, .ref a_mq, .long mtr, .ref a_mr, .ref a_mo, .int mos, .ref a_ml, .ref a_mt, .ref a_mf]))])) A) args s 0 0 A := ⟨_, rfl⟩
  rw [← hQ]
  have hP : va_P (dC, dI) vwCl [(a_m, .inr (7, [.int mkd, .int mrt, .int mri, .int mca, .int mpr, .int men, .ref a_mp, .ref a_me, .int mth, .int mrq, .ref a_mq, .long mtr, .ref a_mr, .ref a_mo, .int mos, .ref a_ml, .ref a_mt, .ref a_mf]))] s.heap := hP
  refine en_ok hargs (Nat.le_of_ble_eq_true rfl) (fun ls hl => ?_)
  have hl : lv_has ls 1 [(0, .ref a_m)] := hl
  have h := hg
  unfold g_X7_drop at h
  refine lv_aload_n hx hb dX7_drop_0 rfl (lv_at hl 0 rfl) ?_
  refine va_get (D := (dC, dI)) (ci := 7) (v := .int mrq) (C := RX7) (T := TX7) (N := 18) hx hb hts (fun _ h => List.mem_cons_of_mem _ (List.mem_append_right _ h)) hown hK hP 0 rfl rfl 9 (by decide) (hts (.fieldLink RX7 50 "RentOrBuyModel" "requests" "I") (List.mem_cons_of_mem _ (List.mem_append_left _ (List.mem_of_getElem? (i := 0) rfl)))) (fun _ h9 => h9) rfl dX7_drop_1 ?_
  refine lv_if_ne (tgt := 10) hx hb dX7_drop_4 (by decide) (fun c4 => ?_) (fun c4 => ?_)
  · replace h := h.1 c4
    refine lv_aload_n hx hb dX7_drop_10 rfl (lv_at hl 0 rfl) ?_
    refine lv_dup hx hb dX7_drop_11 rfl ?_
    refine va_get (D := (dC, dI)) (ci := 7) (v := .int mrq) (C := RX7) (T := TX7) (N := 18) hx hb hts (fun _ h => List.mem_cons_of_mem _ (List.mem_append_right _ h)) hown hK hP 0 rfl rfl 9 (by decide) (hts (.fieldLink RX7 50 "RentOrBuyModel" "requests" "I") (List.mem_cons_of_mem _ (List.mem_append_left _ (List.mem_of_getElem? (i := 0) rfl)))) (fun _ h9 => h9) rfl dX7_drop_12 ?_
    refine lv_iconst (v := (1 : Int32)) hx hb dX7_drop_15 (by decide +kernel) ?_
    refine lv_isub hx hb dX7_drop_16 ?_
    refine va_put (D := (dC, dI)) (ci := 7) (v := .int (mrq - (1 : Int32))) (ty := .int) (C := RX7) (T := TX7) (N := 18) hx hb hts (fun _ h => List.mem_cons_of_mem _ (List.mem_append_right _ h)) tyX7 tyX7_ok nmX7 hown hK hP hD hS 0 rfl rfl 9 (by decide) (hts (.fieldLink RX7 50 "RentOrBuyModel" "requests" "I") (List.mem_cons_of_mem _ (List.mem_append_left _ (List.mem_of_getElem? (i := 0) rfl)))) (fun _ h9 => h9) rfl (by decide +kernel) rfl rfl (Nat.le_of_ble_eq_true rfl) dX7_drop_17 (fun H locs hP hD hS => ?_)
    have hP : va_P (dC, dI) vwCl [(a_m, .inr (7, [.int mkd, .int mrt, .int mri, .int mca, .int mpr, .int men, .ref a_mp, .ref a_me, .int mth, .int (mrq - (1 : Int32)), .ref a_mq, .long mtr, .ref a_mr, .ref a_mo, .int mos, .ref a_ml, .ref a_mt, .ref a_mf]))] H := hP
    have hD : va_D A [(a_m, .inr (7, [.int mkd, .int mrt, .int mri, .int mca, .int mpr, .int men, .ref a_mp, .ref a_me, .int mth, .int (mrq - (1 : Int32)), .ref a_mq, .long mtr, .ref a_mr, .ref a_mo, .int mos, .ref a_ml, .ref a_mt, .ref a_mf]))] := hD
    refine lv_aload_n hx hb dX7_drop_20 rfl (lv_at hl 0 rfl) ?_
    refine va_get (D := (dC, dI)) (ci := 7) (v := .int (mrq - (1 : Int32))) (C := RX7) (T := TX7) (N := 18) hx hb hts (fun _ h => List.mem_cons_of_mem _ (List.mem_append_right _ h)) hown hK hP 0 rfl rfl 9 (by decide) (hts (.fieldLink RX7 50 "RentOrBuyModel" "requests" "I") (List.mem_cons_of_mem _ (List.mem_append_left _ (List.mem_of_getElem? (i := 0) rfl)))) (fun _ h9 => h9) rfl dX7_drop_21 ?_
    rw [hQ]
    exact rt_i ((mrq - (1 : Int32))) hx hb hr hlocks h hP hD hS dX7_drop_24
  · replace h := h.2 c4
    refine lv_bipush (v := (-2 : Int32)) hx hb dX7_drop_7 (by decide +kernel) ?_
    rw [hQ]
    exact rt_i (mrq) hx hb hr hlocks h hP hD hS dX7_drop_9

/-- RentOrBuyModel.ends -/
def rmX7_ends : Room := { frames := 1, cells := 0, slots := 0, locals := 22 }
set_option maxHeartbeats 4000000 in
set_option maxRecDepth 100000 in
theorem c_X7_ends (l : Launch) (dC : Nat → ClassId) (dI : Nat → Nat → Nat) (kA : ClassId) (a_m a_mp a_me a_mq a_mr a_mo a_ml a_mt a_mf : Nat) (sz : Nat) (mkd : Int32) (mrt : Int32) (mri : Int32) (mca : Int32) (mpr : Int32) (men : Int32) (mth : Int32) (mrq : Int32) (mtr : Int64) (mos : Int32) (mpF : Nat → Int32) (meF : Nat → Int32) (p1 : Int32) (K : Int32 → Int32 → (Nat → Int32) → (Nat → Int32) → Prop) (hg : g_X7_ends mkd mrt mri mca mpr men mth mrq mtr mos mpF meF p1 K) : Met l yX7_ends wsX7_ends rmX7_ends (va_Pc [.ref a_m, .int p1] (prW (dC, dI) kA sz [(a_m, .inr (7, [.int mkd, .int mrt, .int mri, .int mca, .int mpr, .int men, .ref a_mp, .ref a_me, .int mth, .int mrq, .ref a_mq, .long mtr, .ref a_mr, .ref a_mo, .int mos, .ref a_ml, .ref a_mt, .ref a_mf])), (a_mp, .inl (kA, 42, .inl mpF)), (a_me, .inl (kA, 42, .inl meF))])) (va_Qi (fun (r : Int32) (u : Int32 × (Nat → Int32) × (Nat → Int32)) => K r u.1 u.2.1 u.2.2) (poW (dC, dI) (va_A [(a_m, .inr (7, [.int mkd, .int mrt, .int mri, .int mca, .int mpr, .int men, .ref a_mp, .ref a_me, .int mth, .int mrq, .ref a_mq, .long mtr, .ref a_mr, .ref a_mo, .int mos, .ref a_ml, .ref a_mt, .ref a_mf])), (a_mp, .inl (kA, 42, .inl mpF)), (a_me, .inl (kA, 42, .inl meF))] sz) (fun (u : Int32 × (Nat → Int32) × (Nat → Int32)) => [(a_m, .inr (7, [.int mkd, .int mrt, .int mri, .int mca, .int mpr, .int u.1, .ref a_mp, .ref a_me, .int mth, .int mrq, .ref a_mq, .long mtr, .ref a_mr, .ref a_mo, .int mos, .ref a_ml, .ref a_mt, .ref a_mf])), (a_mp, .inl (kA, 42, .inl u.2.1)), (a_me, .inl (kA, 42, .inl u.2.2))])) (va_A [(a_m, .inr (7, [.int mkd, .int mrt, .int mri, .int mca, .int mpr, .int men, .ref a_mp, .ref a_me, .int mth, .int mrq, .ref a_mq, .long mtr, .ref a_mr, .ref a_mo, .int mos, .ref a_ml, .ref a_mt, .ref a_mf])), (a_mp, .inl (kA, 42, .inl mpF)), (a_me, .inl (kA, 42, .inl meF))] sz)) 0 0 (va_A [(a_m, .inr (7, [.int mkd, .int mrt, .int mri, .int mca, .int mpr, .int men, .ref a_mp, .ref a_me, .int mth, .int mrq, .ref a_mq, .long mtr, .ref a_mr, .ref a_mo, .int mos, .ref a_ml, .ref a_mt, .ref a_mf])), (a_mp, .inl (kA, 42, .inl mpF)), (a_me, .inl (kA, 42, .inl meF))] sz) := by
  refine Met.ofW (cc := cX7_ends) (maxL := 4) (ret := (some .int)) (by decide) rfl ?_
  intro p e s m args below meth c s₁ B hml hv
  obtain ⟨hargs, hsz, hP, hK, hD0, hN⟩ := hv
  have hx := B.exec
  have hb := B.bytes
  have hr := B.returns
  have hts := atoms_spec (ws := wsX7_ends) B.pre
  have hown : s.vm.findClass RX7 = some m.cls := findClass_of_methodNamed B.named
  have hlocks := B.notSynchronized
  subst hsz
  have hD := hD0.self (sz := s.heap.size)
  generalize hAe : va_A [(a_m, .inr (7, [.int mkd, .int mrt, .int mri, .int mca, .int mpr, .int men, .ref a_mp, .ref a_me, .int mth, .int mrq, .ref a_mq, .long mtr, .ref a_mr, .ref a_mo, .int mos, .ref a_ml, .ref a_mt, .ref a_mf])), (a_mp, .inl (kA, 42, .inl mpF)), (a_me, .inl (kA, 42, .inl meF))] s.heap.size = A at hD ⊢
  have hA : ∀ q : Nat, s.heap.size ≤ q → A q := fun q h => by rw [← hAe]; exact Or.inr h
  have hS : va_S A s.heap s.heap [] := va_S.rf
  obtain ⟨Q, hQ⟩ : ∃ Q : State → Prop, Q = MQ below (va_Qi (fun (r : Int32) (u : Int32 × (Nat → Int32) × (Nat → Int32)) => K r u.1 u.2.1 u.2.2) (poW (dC, dI) A (fun (u : Int32 × (Nat → Int32) × (Nat → Int32)) => [(a_m, .inr (7, [.int mkd, .int mrt, .int mri, .int mca, .int mpr, .int u.1, .ref a_mp, .ref a_me, .int mth, .int mrq, .ref a_mq, .long mtr, .ref a_mr, .ref a_mo, .int mos, .ref a_ml, .ref a_mt, .ref a_mf])), (a_mp, .inl (kA, 42, .inl u.2.1)), (a_me, .inl (kA, 42, .inl u.2.2))])) A) args s 0 0 A := ⟨_, rfl⟩
  rw [← hQ]
  have hP : va_P (dC, dI) vwCl [(a_m, .inr (7, [.int mkd, .int mrt, .int mri, .int mca, .int mpr, .int men, .ref a_mp, .ref a_me, .int mth, .int mrq, .ref a_mq, .long mtr, .ref a_mr, .ref a_mo, .int mos, .ref a_ml, .ref a_mt, .ref a_mf])), (a_mp, .inl (kA, 42, .inl mpF)), (a_me, .inl (kA, 42, .inl meF))] s.heap := hP
  refine en_ok hargs (Nat.le_of_ble_eq_true rfl) (fun ls hl => ?_)
  have hl : lv_has ls 4 [(0, .ref a_m), (1, .int p1)] := hl
  have h := hg
  unfold g_X7_ends at h
  refine lv_iload_n hx hb dX7_ends_0 rfl (lv_at hl 1 rfl) ?_
  refine lv_iconst (v := (1 : Int32)) hx hb dX7_ends_1 (by decide +kernel) ?_
  refine lv_bipush (v := (40 : Int32)) hx hb dX7_ends_2 (by decide +kernel) ?_
  have hPc := hP.sub (ws' := []) [] rfl
  have hDc := hD.sub (ws' := []) [] (by decide) rfl
  refine fr_i (wr := [(a_m, .inr (7, [.int mkd, .int mrt, .int mri, .int mca, .int mpr, .int men, .ref a_mp, .ref a_me, .int mth, .int mrq, .ref a_mq, .long mtr, .ref a_mr, .ref a_mo, .int mos, .ref a_ml, .ref a_mt, .ref a_mf])), (a_mp, .inl (kA, 42, .inl mpF)), (a_me, .inl (kA, 42, .inl meF))]) (WN := fun (u4 : Unit) => [(a_m, .inr (7, [.int mkd, .int mrt, .int mri, .int mca, .int mpr, .int men, .ref a_mp, .ref a_me, .int mth, .int mrq, .ref a_mq, .long mtr, .ref a_mr, .ref a_mo, .int mos, .ref a_ml, .ref a_mt, .ref a_mf])), (a_mp, .inl (kA, 42, .inl mpF)), (a_me, .inl (kA, 42, .inl meF))]) (va_runS (As := [.int p1, .int (1 : Int32), .int (40 : Int32)]) (rest := []) ⟨hx, hb, hml, hown, hts⟩ (c_X7_in l dC dI kA s.heap.size p1 (1 : Int32) (40 : Int32) _ h) (va_cwS 3 hts gX7_ends_X7_in rfl rfl rfl (by decide +kernel) ⟨Nat.le_of_ble_eq_true rfl, Nat.le_of_ble_eq_true rfl⟩) (prW.preS hPc hDc hK hN) rfl rfl hl.1 rfl (lv_room (Nat.le_of_ble_eq_true rfl)) dX7_ends_4 ⟨Nat.le_of_ble_eq_true rfl, Nat.le_of_ble_eq_true rfl⟩) hP hD hS hA [] [0, 1, 2] rfl rfl (by decide) (by decide) [0, 1, 2] (by decide) (fun _ => rfl) (fun r4 u4 H locs h hP hD hS => ?_)
  have hP : va_P (dC, dI) vwCl [(a_m, .inr (7, [.int mkd, .int mrt, .int mri, .int mca, .int mpr, .int men, .ref a_mp, .ref a_me, .int mth, .int mrq, .ref a_mq, .long mtr, .ref a_mr, .ref a_mo, .int mos, .ref a_ml, .ref a_mt, .ref a_mf])), (a_mp, .inl (kA, 42, .inl mpF)), (a_me, .inl (kA, 42, .inl meF))] H := hP
  have hD : va_D A [(a_m, .inr (7, [.int mkd, .int mrt, .int mri, .int mca, .int mpr, .int men, .ref a_mp, .ref a_me, .int mth, .int mrq, .ref a_mq, .long mtr, .ref a_mr, .ref a_mo, .int mos, .ref a_ml, .ref a_mt, .ref a_mf])), (a_mp, .inl (kA, 42, .inl mpF)), (a_me, .inl (kA, 42, .inl meF))] := hD
  refine lv_if_ne (tgt := 12) hx hb dX7_ends_7 (by decide) (fun c7 => ?_) (fun c7 => ?_)
  · replace h := h.1 c7
    refine lv_aload_n hx hb dX7_ends_12 rfl (lv_at hl 0 rfl) ?_
    refine va_get (D := (dC, dI)) (ci := 7) (v := .int men) (C := RX7) (T := TX7) (N := 18) hx hb hts (fun _ h => List.mem_cons_of_mem _ (List.mem_append_right _ h)) hown hK hP 0 rfl rfl 5 (by decide) (hts (.fieldLink RX7 19 "RentOrBuyModel" "ends" "I") (List.mem_cons_of_mem _ (List.mem_append_left _ (List.mem_of_getElem? (i := 0) rfl)))) (fun _ h9 => h9) rfl dX7_ends_13 ?_
    refine lv_istore_n (lv' := [(2, .int men), (0, .ref a_m), (1, .int p1)]) hx hb dX7_ends_16 rfl hl (by decide) rfl (fun ls hl => ?_)
    refine lv_aload_n hx hb dX7_ends_17 rfl (lv_at hl 1 rfl) ?_
    refine lv_iload_n hx hb dX7_ends_18 rfl (lv_at hl 2 rfl) ?_
    refine va_put (D := (dC, dI)) (ci := 7) (v := .int p1) (ty := .int) (C := RX7) (T := TX7) (N := 18) hx hb hts (fun _ h => List.mem_cons_of_mem _ (List.mem_append_right _ h)) tyX7 tyX7_ok nmX7 hown hK hP hD hS 0 rfl rfl 5 (by decide) (hts (.fieldLink RX7 19 "RentOrBuyModel" "ends" "I") (List.mem_cons_of_mem _ (List.mem_append_left _ (List.mem_of_getElem? (i := 0) rfl)))) (fun _ h9 => h9) rfl (by decide +kernel) rfl rfl (Nat.le_of_ble_eq_true rfl) dX7_ends_19 (fun H locs hP hD hS => ?_)
    have hP : va_P (dC, dI) vwCl [(a_m, .inr (7, [.int mkd, .int mrt, .int mri, .int mca, .int mpr, .int p1, .ref a_mp, .ref a_me, .int mth, .int mrq, .ref a_mq, .long mtr, .ref a_mr, .ref a_mo, .int mos, .ref a_ml, .ref a_mt, .ref a_mf])), (a_mp, .inl (kA, 42, .inl mpF)), (a_me, .inl (kA, 42, .inl meF))] H := hP
    have hD : va_D A [(a_m, .inr (7, [.int mkd, .int mrt, .int mri, .int mca, .int mpr, .int p1, .ref a_mp, .ref a_me, .int mth, .int mrq, .ref a_mq, .long mtr, .ref a_mr, .ref a_mo, .int mos, .ref a_ml, .ref a_mt, .ref a_mf])), (a_mp, .inl (kA, 42, .inl mpF)), (a_me, .inl (kA, 42, .inl meF))] := hD
    refine lv_iconst (v := (0 : Int32)) hx hb dX7_ends_22 (by decide +kernel) ?_
    refine lv_istore_n (lv' := [(3, .int (0 : Int32)), (2, .int men), (0, .ref a_m), (1, .int p1)]) hx hb dX7_ends_23 rfl hl (by decide) rfl (fun ls hl => ?_)
    obtain ⟨J24, ⟨n24, h⟩, hz24, hs24⟩ := h
    have hL24 : ∀ (n24 : Nat) (v3_24 : Int32) (mpF_24 : Nat → Int32) (meF_24 : Nat → Int32), J24 n24 v3_24 mpF_24 meF_24 → ∀ (H : Heap) (locs : List Loc) (ls : Array Slot), va_P (dC, dI) vwCl [(a_m, .inr (7, [.int mkd, .int mrt, .int mri, .int mca, .int mpr, .int p1, .ref a_mp, .ref a_me, .int mth, .int mrq, .ref a_mq, .long mtr, .ref a_mr, .ref a_mo, .int mos, .ref a_ml, .ref a_mt, .ref a_mf])), (a_mp, .inl (kA, 42, .inl mpF_24)), (a_me, .inl (kA, 42, .inl meF_24))] H → va_D A [(a_m, .inr (7, [.int mkd, .int mrt, .int mri, .int mca, .int mpr, .int p1, .ref a_mp, .ref a_me, .int mth, .int mrq, .ref a_mq, .long mtr, .ref a_mr, .ref a_mo, .int mos, .ref a_ml, .ref a_mt, .ref a_mf])), (a_mp, .inl (kA, 42, .inl mpF_24)), (a_me, .inl (kA, 42, .inl meF_24))] → va_S A s.heap H locs → lv_has ls 4 [(0, .ref a_m), (2, .int men), (3, .int v3_24)] → W p l e (headSpec wsX7_ends rmX7_ends).room s m args below meth c H locs 0 0 Q (F0 m 24 ls []) := by
      intro n24
      induction n24 with
      | zero => intro v3_24 mpF_24 meF_24 h; exact absurd h (hz24 v3_24 mpF_24 meF_24)
      | succ n24 ih24 =>
        intro v3_24 mpF_24 meF_24 h H locs ls hP hD hS hl
        replace h := hs24 n24 v3_24 mpF_24 meF_24 h
        refine lv_iload_n hx hb dX7_ends_24 rfl (lv_at hl 2 rfl) ?_
        refine lv_bipush (v := (42 : Int32)) hx hb dX7_ends_25 (by decide +kernel) ?_
        refine lv_icmp_ge (tgt := 50) hx hb dX7_ends_27 (by decide) (fun c27 => ?_) (fun c27 => ?_)
        · replace h := h.1 c27
          refine lv_iload_n hx hb dX7_ends_50 rfl (lv_at hl 1 rfl) ?_
          rw [hQ]
          exact rt_i (p1, mpF_24, meF_24) hx hb hr hlocks h hP hD hS dX7_ends_51
        · replace h := h.2 c27
          refine lv_aload_n hx hb dX7_ends_30 rfl (lv_at hl 0 rfl) ?_
          refine va_get (D := (dC, dI)) (ci := 7) (v := .ref a_mp) (C := RX7) (T := TX7) (N := 18) hx hb hts (fun _ h => List.mem_cons_of_mem _ (List.mem_append_right _ h)) hown hK hP 0 rfl rfl 6 (by decide) (hts (.fieldLink RX7 22 "RentOrBuyModel" "planShare" "[I") (List.mem_cons_of_mem _ (List.mem_append_left _ (List.mem_of_getElem? (i := 1) rfl)))) (fun _ h9 => h9) rfl dX7_ends_31 ?_
          refine lv_iload_n hx hb dX7_ends_34 rfl (lv_at hl 2 rfl) ?_
          refine lv_iconst (v := (0 : Int32)) hx hb dX7_ends_35 (by decide +kernel) ?_
          obtain ⟨hi36, h⟩ := h
          refine va_iast hx hb hK hP hD hS 1 0 rfl rfl hi36 dX7_ends_36 (fun H locs hP hD hS => ?_)
          have hP : va_P (dC, dI) vwCl [(a_m, .inr (7, [.int mkd, .int mrt, .int mri, .int mca, .int mpr, .int p1, .ref a_mp, .ref a_me, .int mth, .int mrq, .ref a_mq, .long mtr, .ref a_mr, .ref a_mo, .int mos, .ref a_ml, .ref a_mt, .ref a_mf])), (a_mp, .inl (kA, 42, .inl (upd mpF_24 v3_24.toNatClampNeg (0 : Int32)))), (a_me, .inl (kA, 42, .inl meF_24))] H := hP
          have hD : va_D A [(a_m, .inr (7, [.int mkd, .int mrt, .int mri, .int mca, .int mpr, .int p1, .ref a_mp, .ref a_me, .int mth, .int mrq, .ref a_mq, .long mtr, .ref a_mr, .ref a_mo, .int mos, .ref a_ml, .ref a_mt, .ref a_mf])), (a_mp, .inl (kA, 42, .inl (upd mpF_24 v3_24.toNatClampNeg (0 : Int32)))), (a_me, .inl (kA, 42, .inl meF_24))] := hD
          refine lv_aload_n hx hb dX7_ends_37 rfl (lv_at hl 0 rfl) ?_
          refine va_get (D := (dC, dI)) (ci := 7) (v := .ref a_me) (C := RX7) (T := TX7) (N := 18) hx hb hts (fun _ h => List.mem_cons_of_mem _ (List.mem_append_right _ h)) hown hK hP 0 rfl rfl 7 (by decide) (hts (.fieldLink RX7 26 "RentOrBuyModel" "endShare" "[I") (List.mem_cons_of_mem _ (List.mem_append_left _ (List.mem_of_getElem? (i := 2) rfl)))) (fun _ h9 => h9) rfl dX7_ends_38 ?_
          refine lv_iload_n hx hb dX7_ends_41 rfl (lv_at hl 2 rfl) ?_
          refine lv_iconst (v := (0 : Int32)) hx hb dX7_ends_42 (by decide +kernel) ?_
          obtain ⟨hi43, h⟩ := h
          refine va_iast hx hb hK hP hD hS 2 0 rfl rfl hi43 dX7_ends_43 (fun H locs hP hD hS => ?_)
          have hP : va_P (dC, dI) vwCl [(a_m, .inr (7, [.int mkd, .int mrt, .int mri, .int mca, .int mpr, .int p1, .ref a_mp, .ref a_me, .int mth, .int mrq, .ref a_mq, .long mtr, .ref a_mr, .ref a_mo, .int mos, .ref a_ml, .ref a_mt, .ref a_mf])), (a_mp, .inl (kA, 42, .inl (upd mpF_24 v3_24.toNatClampNeg (0 : Int32)))), (a_me, .inl (kA, 42, .inl (upd meF_24 v3_24.toNatClampNeg (0 : Int32))))] H := hP
          have hD : va_D A [(a_m, .inr (7, [.int mkd, .int mrt, .int mri, .int mca, .int mpr, .int p1, .ref a_mp, .ref a_me, .int mth, .int mrq, .ref a_mq, .long mtr, .ref a_mr, .ref a_mo, .int mos, .ref a_ml, .ref a_mt, .ref a_mf])), (a_mp, .inl (kA, 42, .inl (upd mpF_24 v3_24.toNatClampNeg (0 : Int32)))), (a_me, .inl (kA, 42, .inl (upd meF_24 v3_24.toNatClampNeg (0 : Int32))))] := hD
          refine lv_iinc (v := (v3_24 + (1 : Int32))) (lv' := [(3, .int (v3_24 + (1 : Int32))), (0, .ref a_m), (2, .int men)]) hx hb dX7_ends_44 hl (k := 2) rfl (by rfl) (by decide) rfl (fun ls hl => ?_)
          refine lv_goto (tgt := 24) hx hb dX7_ends_47 (by decide) ?_
          exact ih24 (v3_24 + (1 : Int32)) (upd mpF_24 v3_24.toNatClampNeg (0 : Int32)) (upd meF_24 v3_24.toNatClampNeg (0 : Int32)) h _ _ _ hP hD hS (lv_sub hl [1, 2, 0] rfl)
    exact hL24 n24 (0 : Int32) mpF meF h _ _ _ hP hD hS (lv_sub hl [2, 1, 0] rfl)
  · replace h := h.2 c7
    refine lv_iconst (v := (-1 : Int32)) hx hb dX7_ends_10 (by decide +kernel) ?_
    rw [hQ]
    exact rt_i (men, mpF, meF) hx hb hr hlocks h hP hD hS dX7_ends_11

/-- RentOrBuyModel.isTrust -/
def rmX7_isTrust : Room := { frames := 1, cells := 0, slots := 0, locals := 22 }
set_option maxHeartbeats 4000000 in
set_option maxRecDepth 100000 in
theorem c_X7_isTrust (l : Launch) (dC : Nat → ClassId) (dI : Nat → Nat → Nat) (kA : ClassId) (sz : Nat) (p1 : Int32) (K : Int32 → Prop) (hg : g_X7_isTrust p1 K) : Met l yX7_isTrust wsX7_isTrust rmX7_isTrust (va_Pc [.int p1] (prW (dC, dI) kA sz [])) (va_Qi (fun (r : Int32) (u : Unit) => K r) (poW (dC, dI) (va_A [] sz) (fun (u : Unit) => [])) (va_A [] sz)) 0 0 (va_A [] sz) := by
  refine Met.ofW (cc := cX7_isTrust) (maxL := 1) (ret := (some .boolean)) (by decide) rfl ?_
  intro p e s m args below meth c s₁ B hml hv
  obtain ⟨hargs, hsz, hP, hK, hD0, hN⟩ := hv
  have hx := B.exec
  have hb := B.bytes
  have hr := B.returns
  have hts := atoms_spec (ws := wsX7_isTrust) B.pre
  have hown : s.vm.findClass RX7 = some m.cls := findClass_of_methodNamed B.named
  have hlocks := B.notSynchronized
  subst hsz
  have hD := hD0.self (sz := s.heap.size)
  generalize hAe : va_A [] s.heap.size = A at hD ⊢
  have hA : ∀ q : Nat, s.heap.size ≤ q → A q := fun q h => by rw [← hAe]; exact Or.inr h
  have hS : va_S A s.heap s.heap [] := va_S.rf
  obtain ⟨Q, hQ⟩ : ∃ Q : State → Prop, Q = MQ below (va_Qi (fun (r : Int32) (u : Unit) => K r) (poW (dC, dI) A (fun (u : Unit) => [])) A) args s 0 0 A := ⟨_, rfl⟩
  rw [← hQ]
  have hP : va_P (dC, dI) vwCl [] s.heap := hP
  refine en_ok hargs (Nat.le_of_ble_eq_true rfl) (fun ls hl => ?_)
  have hl : lv_has ls 1 [(0, .int p1)] := hl
  have h := hg
  unfold g_X7_isTrust at h
  refine lv_iload_n hx hb dX7_isTrust_0 rfl (lv_at hl 0 rfl) ?_
  refine lv_iconst (v := (1 : Int32)) hx hb dX7_isTrust_1 (by decide +kernel) ?_
  refine lv_bipush (v := (9 : Int32)) hx hb dX7_isTrust_2 (by decide +kernel) ?_
  have hPc := hP.sub (ws' := []) [] rfl
  have hDc := hD.sub (ws' := []) [] (by decide) rfl
  refine fr_i (wr := []) (WN := fun (u4 : Unit) => []) (va_runS (As := [.int p1, .int (1 : Int32), .int (9 : Int32)]) (rest := []) ⟨hx, hb, hml, hown, hts⟩ (c_X7_in l dC dI kA s.heap.size p1 (1 : Int32) (9 : Int32) _ h) (va_cwS 3 hts gX7_isTrust_X7_in rfl rfl rfl (by decide +kernel) ⟨Nat.le_of_ble_eq_true rfl, Nat.le_of_ble_eq_true rfl⟩) (prW.preS hPc hDc hK hN) rfl rfl hl.1 rfl (lv_room (Nat.le_of_ble_eq_true rfl)) dX7_isTrust_4 ⟨Nat.le_of_ble_eq_true rfl, Nat.le_of_ble_eq_true rfl⟩) hP hD hS hA [] [] rfl rfl (by decide) (by decide) [] (by decide) (fun _ => rfl) (fun r4 u4 H locs h hP hD hS => ?_)
  have hP : va_P (dC, dI) vwCl [] H := hP
  have hD : va_D A [] := hD
  obtain ⟨hzz, h⟩ := h
  rw [hQ]
  exact rt_z () hx hb hr hlocks hzz h hP hD hS dX7_isTrust_7

/-- RentOrBuyModel.worstEnd -/
def rmX7_worstEnd : Room := { frames := 3, cells := 0, slots := 0, locals := 67 }
set_option maxHeartbeats 4000000 in
set_option maxRecDepth 100000 in
theorem c_X7_worstEnd (l : Launch) (dC : Nat → ClassId) (dI : Nat → Nat → Nat) (kA : ClassId) (a_m a_mp a_me a_mq a_mr a_mo a_ml a_mt a_mf : Nat) (sz : Nat) (mkd : Int32) (mrt : Int32) (mri : Int32) (mca : Int32) (mpr : Int32) (men : Int32) (mth : Int32) (mrq : Int32) (mtr : Int64) (mos : Int32) (p1 : Int32) (K : Int32 → Prop) (hg : g_X7_worstEnd mkd mrt mri mca mpr men mth mrq mtr mos p1 K) : Met l yX7_worstEnd wsX7_worstEnd rmX7_worstEnd (va_Pc [.ref a_m, .int p1] (prW (dC, dI) kA sz [(a_m, .inr (7, [.int mkd, .int mrt, .int mri, .int mca, .int mpr, .int men, .ref a_mp, .ref a_me, .int mth, .int mrq, .ref a_mq, .long mtr, .ref a_mr, .ref a_mo, .int mos, .ref a_ml, .ref a_mt, .ref a_mf]))])) (va_Qi (fun (r : Int32) (u : Unit) => K r) (poW (dC, dI) (va_A [(a_m, .inr (7, [.int mkd, .int mrt, .int mri, .int mca, .int mpr, .int men, .ref a_mp, .ref a_me, .int mth, .int mrq, .ref a_mq, .long mtr, .ref a_mr, .ref a_mo, .int mos, .ref a_ml, .ref a_mt, .ref a_mf]))] sz) (fun (u : Unit) => [(a_m, .inr (7, [.int mkd, .int mrt, .int mri, .int mca, .int mpr, .int men, .ref a_mp, .ref a_me, .int mth, .int mrq, .ref a_mq, .long mtr, .ref a_mr, .ref a_mo, .int mos, .ref a_ml, .ref a_mt, .ref a_mf]))])) (va_A [(a_m, .inr (7, [.int mkd, .int mrt, .int mri, .int mca, .int mpr, .int men, .ref a_mp, .ref a_me, .int mth, .int mrq, .ref a_mq, .long mtr, .ref a_mr, .ref a_mo, .int mos, .ref a_ml, .ref a_mt, .ref a_mf]))] sz)) 0 0 (va_A [(a_m, .inr (7, [.int mkd, .int mrt, .int mri, .int mca, .int mpr, .int men, .ref a_mp, .ref a_me, .int mth, .int mrq, .ref a_mq, .long mtr, .ref a_mr, .ref a_mo, .int mos, .ref a_ml, .ref a_mt, .ref a_mf]))] sz) := by
  refine Met.ofW (cc := cX7_worstEnd) (maxL := 4) (ret := (some .int)) (by decide) rfl ?_
  intro p e s m args below meth c s₁ B hml hv
  obtain ⟨hargs, hsz, hP, hK, hD0, hN⟩ := hv
  have hx := B.exec
  have hb := B.bytes
  have hr := B.returns
  have hts := atoms_spec (ws := wsX7_worstEnd) B.pre
  have hown : s.vm.findClass RX7 = some m.cls := findClass_of_methodNamed B.named
  have hlocks := B.notSynchronized
  subst hsz
  have hD := hD0.self (sz := s.heap.size)
  generalize hAe : va_A [(a_m, .inr (7, [.int mkd, .int mrt, .int mri, .int mca, .int mpr, .int men, .ref a_mp, .ref a_me, .int mth, .int mrq, .ref a_mq, .long mtr, .ref a_mr, .ref a_mo, .int mos, .ref a_ml, .ref a_mt, .ref a_mf]))] s.heap.size = A at hD ⊢
  have hA : ∀ q : Nat, s.heap.size ≤ q → A q := fun q h => by rw [← hAe]; exact Or.inr h
  have hS : va_S A s.heap s.heap [] := va_S.rf
  obtain ⟨Q, hQ⟩ : ∃ Q : State → Prop, Q = MQ below (va_Qi (fun (r : Int32) (u : Unit) => K r) (poW (dC, dI) A (fun (u : Unit) => [(a_m, .inr (7, [.int mkd, .int mrt, .int mri, .int mca, .int mpr, .int men, .ref a_mp, .ref a_me, .int mth, .int mrq, .ref a_mq, .long mtr, .ref a_mr, .ref a_mo, .int mos, .ref a_ml, .ref a_mt, .ref a_mf]))])) A) args s 0 0 A := ⟨_, rfl⟩
  rw [← hQ]
  have hP : va_P (dC, dI) vwCl [(a_m, .inr (7, [.int mkd, .int mrt, .int mri, .int mca, .int mpr, .int men, .ref a_mp, .ref a_me, .int mth, .int mrq, .ref a_mq, .long mtr, .ref a_mr, .ref a_mo, .int mos, .ref a_ml, .ref a_mt, .ref a_mf]))] s.heap := hP
  refine en_ok hargs (Nat.le_of_ble_eq_true rfl) (fun ls hl => ?_)
  have hl : lv_has ls 4 [(0, .ref a_m), (1, .int p1)] := hl
  have h := hg
  unfold g_X7_worstEnd at h
  refine lv_iconst (v := (1 : Int32)) hx hb dX7_worstEnd_0 (by decide +kernel) ?_
  refine lv_istore_n (lv' := [(2, .int (1 : Int32)), (0, .ref a_m), (1, .int p1)]) hx hb dX7_worstEnd_1 rfl hl (by decide) rfl (fun ls hl => ?_)
  refine lv_iconst (v := (2 : Int32)) hx hb dX7_worstEnd_2 (by decide +kernel) ?_
  refine lv_istore_n (lv' := [(3, .int (2 : Int32)), (2, .int (1 : Int32)), (0, .ref a_m), (1, .int p1)]) hx hb dX7_worstEnd_3 rfl hl (by decide) rfl (fun ls hl => ?_)
  obtain ⟨J4, ⟨n4, h⟩, hz4, hs4⟩ := h
  have hL4 : ∀ (n4 : Nat) (v2_4 : Int32) (v3_4 : Int32), J4 n4 v2_4 v3_4 → ∀ (H : Heap) (locs : List Loc) (ls : Array Slot), va_P (dC, dI) vwCl [(a_m, .inr (7, [.int mkd, .int mrt, .int mri, .int mca, .int mpr, .int men, .ref a_mp, .ref a_me, .int mth, .int mrq, .ref a_mq, .long mtr, .ref a_mr, .ref a_mo, .int mos, .ref a_ml, .ref a_mt, .ref a_mf]))] H → va_D A [(a_m, .inr (7, [.int mkd, .int mrt, .int mri, .int mca, .int mpr, .int men, .ref a_mp, .ref a_me, .int mth, .int mrq, .ref a_mq, .long mtr, .ref a_mr, .ref a_mo, .int mos, .ref a_ml, .ref a_mt, .ref a_mf]))] → va_S A s.heap H locs → lv_has ls 4 [(0, .ref a_m), (1, .int p1), (2, .int v2_4), (3, .int v3_4)] → W p l e (headSpec wsX7_worstEnd rmX7_worstEnd).room s m args below meth c H locs 0 0 Q (F0 m 4 ls []) := by
    intro n4
    induction n4 with
    | zero => intro v2_4 v3_4 h; exact absurd h (hz4 v2_4 v3_4)
    | succ n4 ih4 =>
      intro v2_4 v3_4 h H locs ls hP hD hS hl
      replace h := hs4 n4 v2_4 v3_4 h
      refine lv_iload_n hx hb dX7_worstEnd_4 rfl (lv_at hl 3 rfl) ?_
      refine lv_aload_n hx hb dX7_worstEnd_5 rfl (lv_at hl 0 rfl) ?_
      refine va_get (D := (dC, dI)) (ci := 7) (v := .int men) (C := RX7) (T := TX7) (N := 18) hx hb hts (fun _ h => List.mem_cons_of_mem _ (List.mem_append_right _ h)) hown hK hP 0 rfl rfl 5 (by decide) (hts (.fieldLink RX7 19 "RentOrBuyModel" "ends" "I") (List.mem_cons_of_mem _ (List.mem_append_left _ (List.mem_of_getElem? (i := 0) rfl)))) (fun _ h9 => h9) rfl dX7_worstEnd_6 ?_
      refine lv_icmp_gt (tgt := 56) hx hb dX7_worstEnd_9 (by decide) (fun c9 => ?_) (fun c9 => ?_)
      · replace h := h.1 c9
        refine lv_iload_n hx hb dX7_worstEnd_56 rfl (lv_at hl 2 rfl) ?_
        rw [hQ]
        exact rt_i () hx hb hr hlocks h hP hD hS dX7_worstEnd_57
      · replace h := h.2 c9
        refine lv_aload_n hx hb dX7_worstEnd_12 rfl (lv_at hl 0 rfl) ?_
        refine lv_iload_n hx hb dX7_worstEnd_13 rfl (lv_at hl 1 rfl) ?_
        refine lv_iload_n hx hb dX7_worstEnd_14 rfl (lv_at hl 3 rfl) ?_
        have hPc := hP.sub (ws' := [(a_m, .inr (7, [.int mkd, .int mrt, .int mri, .int mca, .int mpr, .int men, .ref a_mp, .ref a_me, .int mth, .int mrq, .ref a_mq, .long mtr, .ref a_mr, .ref a_mo, .int mos, .ref a_ml, .ref a_mt, .ref a_mf]))]) [0] rfl
        have hDc := hD.sub (ws' := [(a_m, .inr (7, [.int mkd, .int mrt, .int mri, .int mca, .int mpr, .int men, .ref a_mp, .ref a_me, .int mth, .int mrq, .ref a_mq, .long mtr, .ref a_mr, .ref a_mo, .int mos, .ref a_ml, .ref a_mt, .ref a_mf]))]) [0] (by decide) rfl
        refine fr_i (wr := []) (WN := fun (u15 : Unit) => [(a_m, .inr (7, [.int mkd, .int mrt, .int mri, .int mca, .int mpr, .int men, .ref a_mp, .ref a_me, .int mth, .int mrq, .ref a_mq, .long mtr, .ref a_mr, .ref a_mo, .int mos, .ref a_ml, .ref a_mt, .ref a_mf]))]) (va_runV (As := [.int p1, .int v3_4]) (rest := []) ⟨hx, hb, hml, hown, hts⟩ (c_X7_costOf l dC dI kA a_m a_mp a_me a_mq a_mr a_mo a_ml a_mt a_mf H.size mkd mrt mri mca mpr men mth mrq mtr mos p1 v3_4 _ h) (cwV 2 hts gX7_worstEnd_X7_costOf rfl rfl rfl (by decide +kernel) ⟨Nat.le_of_ble_eq_true rfl, Nat.le_of_ble_eq_true rfl⟩) (prW.preV (ci := 7) (q0 := 0) hPc hDc hK hN rfl rfl) rfl rfl hl.1 rfl (lv_room (Nat.le_of_ble_eq_true rfl)) dX7_worstEnd_15 ⟨Nat.le_of_ble_eq_true rfl, Nat.le_of_ble_eq_true rfl⟩) hP hD hS hA [0] [] rfl rfl (by decide) (by decide) [0] (by decide) (fun _ => rfl) (fun r15 u15 H locs h hP hD hS => ?_)
        have hP : va_P (dC, dI) vwCl [(a_m, .inr (7, [.int mkd, .int mrt, .int mri, .int mca, .int mpr, .int men, .ref a_mp, .ref a_me, .int mth, .int mrq, .ref a_mq, .long mtr, .ref a_mr, .ref a_mo, .int mos, .ref a_ml, .ref a_mt, .ref a_mf]))] H := hP
        have hD : va_D A [(a_m, .inr (7, [.int mkd, .int mrt, .int mri, .int mca, .int mpr, .int men, .ref a_mp, .ref a_me, .int mth, .int mrq, .ref a_mq, .long mtr, .ref a_mr, .ref a_mo, .int mos, .ref a_ml, .ref a_mt, .ref a_mf]))] := hD
        refine lv_i2l hx hb dX7_worstEnd_18 rfl ?_
        refine lv_aload_n hx hb dX7_worstEnd_19 rfl (lv_at hl 0 rfl) ?_
        refine lv_iload_n hx hb dX7_worstEnd_20 rfl (lv_at hl 2 rfl) ?_
        have hPc := hP.sub (ws' := [(a_m, .inr (7, [.int mkd, .int mrt, .int mri, .int mca, .int mpr, .int men, .ref a_mp, .ref a_me, .int mth, .int mrq, .ref a_mq, .long mtr, .ref a_mr, .ref a_mo, .int mos, .ref a_ml, .ref a_mt, .ref a_mf]))]) [0] rfl
        have hDc := hD.sub (ws' := [(a_m, .inr (7, [.int mkd, .int mrt, .int mri, .int mca, .int mpr, .int men, .ref a_mp, .ref a_me, .int mth, .int mrq, .ref a_mq, .long mtr, .ref a_mr, .ref a_mo, .int mos, .ref a_ml, .ref a_mt, .ref a_mf]))]) [0] (by decide) rfl
        refine fr_i (wr := []) (WN := fun (u21 : Unit) => [(a_m, .inr (7, [.int mkd, .int mrt, .int mri, .int mca, .int mpr, .int men, .ref a_mp, .ref a_me, .int mth, .int mrq, .ref a_mq, .long mtr, .ref a_mr, .ref a_mo, .int mos, .ref a_ml, .ref a_mt, .ref a_mf]))]) (va_runV (As := [.int v2_4]) (rest := [.long r15.toInt64]) ⟨hx, hb, hml, hown, hts⟩ (c_X7_knownBy l dC dI kA a_m a_mp a_me a_mq a_mr a_mo a_ml a_mt a_mf H.size mkd mrt mri mca mpr men mth mrq mtr mos v2_4 _ h) (cwV 1 hts gX7_worstEnd_X7_knownBy rfl rfl rfl (by decide +kernel) ⟨Nat.le_of_ble_eq_true rfl, Nat.le_of_ble_eq_true rfl⟩) (prW.preV (ci := 7) (q0 := 0) hPc hDc hK hN rfl rfl) rfl rfl hl.1 rfl (lv_room (Nat.le_of_ble_eq_true rfl)) dX7_worstEnd_21 ⟨Nat.le_of_ble_eq_true rfl, Nat.le_of_ble_eq_true rfl⟩) hP hD hS hA [0] [] rfl rfl (by decide) (by decide) [0] (by decide) (fun _ => rfl) (fun r21 u21 H locs h hP hD hS => ?_)
        have hP : va_P (dC, dI) vwCl [(a_m, .inr (7, [.int mkd, .int mrt, .int mri, .int mca, .int mpr, .int men, .ref a_mp, .ref a_me, .int mth, .int mrq, .ref a_mq, .long mtr, .ref a_mr, .ref a_mo, .int mos, .ref a_ml, .ref a_mt, .ref a_mf]))] H := hP
        have hD : va_D A [(a_m, .inr (7, [.int mkd, .int mrt, .int mri, .int mca, .int mpr, .int men, .ref a_mp, .ref a_me, .int mth, .int mrq, .ref a_mq, .long mtr, .ref a_mr, .ref a_mo, .int mos, .ref a_ml, .ref a_mt, .ref a_mf]))] := hD
        refine lv_i2l hx hb dX7_worstEnd_24 rfl ?_
        refine lv_lmul hx hb dX7_worstEnd_25 ?_
        refine lv_aload_n hx hb dX7_worstEnd_26 rfl (lv_at hl 0 rfl) ?_
        refine lv_iload_n hx hb dX7_worstEnd_27 rfl (lv_at hl 1 rfl) ?_
        refine lv_iload_n hx hb dX7_worstEnd_28 rfl (lv_at hl 2 rfl) ?_
        have hPc := hP.sub (ws' := [(a_m, .inr (7, [.int mkd, .int mrt, .int mri, .int mca, .int mpr, .int men, .ref a_mp, .ref a_me, .int mth, .int mrq, .ref a_mq, .long mtr, .ref a_mr, .ref a_mo, .int mos, .ref a_ml, .ref a_mt, .ref a_mf]))]) [0] rfl
        have hDc := hD.sub (ws' := [(a_m, .inr (7, [.int mkd, .int mrt, .int mri, .int mca, .int mpr, .int men, .ref a_mp, .ref a_me, .int mth, .int mrq, .ref a_mq, .long mtr, .ref a_mr, .ref a_mo, .int mos, .ref a_ml, .ref a_mt, .ref a_mf]))]) [0] (by decide) rfl
        refine fr_i (wr := []) (WN := fun (u29 : Unit) => [(a_m, .inr (7, [.int mkd, .int mrt, .int mri, .int mca, .int mpr, .int men, .ref a_mp, .ref a_me, .int mth, .int mrq, .ref a_mq, .long mtr, .ref a_mr, .ref a_mo, .int mos, .ref a_ml, .ref a_mt, .ref a_mf]))]) (va_runV (As := [.int p1, .int v2_4]) (rest := [.long (r15.toInt64 * r21.toInt64)]) ⟨hx, hb, hml, hown, hts⟩ (c_X7_costOf l dC dI kA a_m a_mp a_me a_mq a_mr a_mo a_ml a_mt a_mf H.size mkd mrt mri mca mpr men mth mrq mtr mos p1 v2_4 _ h) (cwV 2 hts gX7_worstEnd_X7_costOf rfl rfl rfl (by decide +kernel) ⟨Nat.le_of_ble_eq_true rfl, Nat.le_of_ble_eq_true rfl⟩) (prW.preV (ci := 7) (q0 := 0) hPc hDc hK hN rfl rfl) rfl rfl hl.1 rfl (lv_room (Nat.le_of_ble_eq_true rfl)) dX7_worstEnd_29 ⟨Nat.le_of_ble_eq_true rfl, Nat.le_of_ble_eq_true rfl⟩) hP hD hS hA [0] [] rfl rfl (by decide) (by decide) [0] (by decide) (fun _ => rfl) (fun r29 u29 H locs h hP hD hS => ?_)
        have hP : va_P (dC, dI) vwCl [(a_m, .inr (7, [.int mkd, .int mrt, .int mri, .int mca, .int mpr, .int men, .ref a_mp, .ref a_me, .int mth, .int mrq, .ref a_mq, .long mtr, .ref a_mr, .ref a_mo, .int mos, .ref a_ml, .ref a_mt, .ref a_mf]))] H := hP
        have hD : va_D A [(a_m, .inr (7, [.int mkd, .int mrt, .int mri, .int mca, .int mpr, .int men, .ref a_mp, .ref a_me, .int mth, .int mrq, .ref a_mq, .long mtr, .ref a_mr, .ref a_mo, .int mos, .ref a_ml, .ref a_mt, .ref a_mf]))] := hD
        refine lv_i2l hx hb dX7_worstEnd_32 rfl ?_
        refine lv_aload_n hx hb dX7_worstEnd_33 rfl (lv_at hl 0 rfl) ?_
        refine lv_iload_n hx hb dX7_worstEnd_34 rfl (lv_at hl 3 rfl) ?_
        have hPc := hP.sub (ws' := [(a_m, .inr (7, [.int mkd, .int mrt, .int mri, .int mca, .int mpr, .int men, .ref a_mp, .ref a_me, .int mth, .int mrq, .ref a_mq, .long mtr, .ref a_mr, .ref a_mo, .int mos, .ref a_ml, .ref a_mt, .ref a_mf]))]) [0] rfl
        have hDc := hD.sub (ws' := [(a_m, .inr (7, [.int mkd, .int mrt, .int mri, .int mca, .int mpr, .int men, .ref a_mp, .ref a_me, .int mth, .int mrq, .ref a_mq, .long mtr, .ref a_mr, .ref a_mo, .int mos, .ref a_ml, .ref a_mt, .ref a_mf]))]) [0] (by decide) rfl
        refine fr_i (wr := []) (WN := fun (u35 : Unit) => [(a_m, .inr (7, [.int mkd, .int mrt, .int mri, .int mca, .int mpr, .int men, .ref a_mp, .ref a_me, .int mth, .int mrq, .ref a_mq, .long mtr, .ref a_mr, .ref a_mo, .int mos, .ref a_ml, .ref a_mt, .ref a_mf]))]) (va_runV (As := [.int v3_4]) (rest := [.long r29.toInt64, .long (r15.toInt64 * r21.toInt64)]) ⟨hx, hb, hml, hown, hts⟩ (c_X7_knownBy l dC dI kA a_m a_mp a_me a_mq a_mr a_mo a_ml a_mt a_mf H.size mkd mrt mri mca mpr men mth mrq mtr mos v3_4 _ h) (cwV 1 hts gX7_worstEnd_X7_knownBy rfl rfl rfl (by decide +kernel) ⟨Nat.le_of_ble_eq_true rfl, Nat.le_of_ble_eq_true rfl⟩) (prW.preV (ci := 7) (q0 := 0) hPc hDc hK hN rfl rfl) rfl rfl hl.1 rfl (lv_room (Nat.le_of_ble_eq_true rfl)) dX7_worstEnd_35 ⟨Nat.le_of_ble_eq_true rfl, Nat.le_of_ble_eq_true rfl⟩) hP hD hS hA [0] [] rfl rfl (by decide) (by decide) [0] (by decide) (fun _ => rfl) (fun r35 u35 H locs h hP hD hS => ?_)
        have hP : va_P (dC, dI) vwCl [(a_m, .inr (7, [.int mkd, .int mrt, .int mri, .int mca, .int mpr, .int men, .ref a_mp, .ref a_me, .int mth, .int mrq, .ref a_mq, .long mtr, .ref a_mr, .ref a_mo, .int mos, .ref a_ml, .ref a_mt, .ref a_mf]))] H := hP
        have hD : va_D A [(a_m, .inr (7, [.int mkd, .int mrt, .int mri, .int mca, .int mpr, .int men, .ref a_mp, .ref a_me, .int mth, .int mrq, .ref a_mq, .long mtr, .ref a_mr, .ref a_mo, .int mos, .ref a_ml, .ref a_mt, .ref a_mf]))] := hD
        refine lv_i2l hx hb dX7_worstEnd_38 rfl ?_
        refine lv_lmul hx hb dX7_worstEnd_39 ?_
        refine W.lcmp hx hb dX7_worstEnd_40 ?_
        obtain ⟨J49, hR49, h⟩ := h
        have hJ49 : ∀ (t0_49 : Int32), J49 t0_49 → ∀ (H : Heap) (locs : List Loc) (ls : Array Slot), va_P (dC, dI) vwCl [(a_m, .inr (7, [.int mkd, .int mrt, .int mri, .int mca, .int mpr, .int men, .ref a_mp, .ref a_me, .int mth, .int mrq, .ref a_mq, .long mtr, .ref a_mr, .ref a_mo, .int mos, .ref a_ml, .ref a_mt, .ref a_mf]))] H → va_D A [(a_m, .inr (7, [.int mkd, .int mrt, .int mri, .int mca, .int mpr, .int men, .ref a_mp, .ref a_me, .int mth, .int mrq, .ref a_mq, .long mtr, .ref a_mr, .ref a_mo, .int mos, .ref a_ml, .ref a_mt, .ref a_mf]))] → va_S A s.heap H locs → lv_has ls 4 [(0, .ref a_m), (1, .int p1), (3, .int v3_4)] → W p l e (headSpec wsX7_worstEnd rmX7_worstEnd).room s m args below meth c H locs 0 0 Q (F0 m 49 ls [.int t0_49]) := by
          intro t0_49 h H locs ls hP hD hS hl
          replace h := hR49 t0_49 h
          refine lv_istore_n (lv' := [(2, .int t0_49), (0, .ref a_m), (1, .int p1), (3, .int v3_4)]) hx hb dX7_worstEnd_49 rfl hl (by decide) rfl (fun ls hl => ?_)
          refine lv_iinc (v := (v3_4 + (1 : Int32))) (lv' := [(3, .int (v3_4 + (1 : Int32))), (2, .int t0_49), (0, .ref a_m), (1, .int p1)]) hx hb dX7_worstEnd_50 hl (k := 3) rfl (by rfl) (by decide) rfl (fun ls hl => ?_)
          refine lv_goto (tgt := 4) hx hb dX7_worstEnd_53 (by decide) ?_
          exact ih4 t0_49 (v3_4 + (1 : Int32)) h _ _ _ hP hD hS (lv_sub hl [2, 3, 1, 0] rfl)
        refine lv_if_le (tgt := 48) hx hb dX7_worstEnd_41 (by decide) (fun c41 => ?_) (fun c41 => ?_)
        · replace h := h.1 c41
          refine lv_iload_n hx hb dX7_worstEnd_48 rfl (lv_at hl 2 rfl) ?_
          exact hJ49 v2_4 h _ _ _ hP hD hS (lv_sub hl [0, 1, 3] rfl)
        · replace h := h.2 c41
          refine lv_iload_n hx hb dX7_worstEnd_44 rfl (lv_at hl 3 rfl) ?_
          refine lv_goto (tgt := 49) hx hb dX7_worstEnd_45 (by decide) ?_
          exact hJ49 v3_4 h _ _ _ hP hD hS (lv_sub hl [0, 1, 3] rfl)
  exact hL4 n4 (1 : Int32) (2 : Int32) h _ _ _ hP hD hS (lv_sub hl [2, 3, 1, 0] rfl)

/-- RentOrBuyModel.surePlan -/
def rmX7_surePlan : Room := { frames := 4, cells := 0, slots := 0, locals := 90 }
set_option maxHeartbeats 4000000 in
set_option maxRecDepth 100000 in
theorem c_X7_surePlan (l : Launch) (dC : Nat → ClassId) (dI : Nat → Nat → Nat) (kA : ClassId) (a_m a_mp a_me a_mq a_mr a_mo a_ml a_mt a_mf : Nat) (sz : Nat) (mkd : Int32) (mrt : Int32) (mri : Int32) (mca : Int32) (mpr : Int32) (men : Int32) (mth : Int32) (mrq : Int32) (mtr : Int64) (mos : Int32) (K : Int32 → Prop) (hg : g_X7_surePlan mkd mrt mri mca mpr men mth mrq mtr mos K) : Met l yX7_surePlan wsX7_surePlan rmX7_surePlan (va_Pc [.ref a_m] (prW (dC, dI) kA sz [(a_m, .inr (7, [.int mkd, .int mrt, .int mri, .int mca, .int mpr, .int men, .ref a_mp, .ref a_me, .int mth, .int mrq, .ref a_mq, .long mtr, .ref a_mr, .ref a_mo, .int mos, .ref a_ml, .ref a_mt, .ref a_mf]))])) (va_Qi (fun (r : Int32) (u : Unit) => K r) (poW (dC, dI) (va_A [(a_m, .inr (7, [.int mkd, .int mrt, .int mri, .int mca, .int mpr, .int men, .ref a_mp, .ref a_me, .int mth, .int mrq, .ref a_mq, .long mtr, .ref a_mr, .ref a_mo, .int mos, .ref a_ml, .ref a_mt, .ref a_mf]))] sz) (fun (u : Unit) => [(a_m, .inr (7, [.int mkd, .int mrt, .int mri, .int mca, .int mpr, .int men, .ref a_mp, .ref a_me, .int mth, .int mrq, .ref a_mq, .long mtr, .ref a_mr, .ref a_mo, .int mos, .ref a_ml, .ref a_mt, .ref a_mf]))])) (va_A [(a_m, .inr (7, [.int mkd, .int mrt, .int mri, .int mca, .int mpr, .int men, .ref a_mp, .ref a_me, .int mth, .int mrq, .ref a_mq, .long mtr, .ref a_mr, .ref a_mo, .int mos, .ref a_ml, .ref a_mt, .ref a_mf]))] sz)) 0 0 (va_A [(a_m, .inr (7, [.int mkd, .int mrt, .int mri, .int mca, .int mpr, .int men, .ref a_mp, .ref a_me, .int mth, .int mrq, .ref a_mq, .long mtr, .ref a_mr, .ref a_mo, .int mos, .ref a_ml, .ref a_mt, .ref a_mf]))] sz) := by
  refine Met.ofW (cc := cX7_surePlan) (maxL := 5) (ret := (some .int)) (by decide) rfl ?_
  intro p e s m args below meth c s₁ B hml hv
  obtain ⟨hargs, hsz, hP, hK, hD0, hN⟩ := hv
  have hx := B.exec
  have hb := B.bytes
  have hr := B.returns
  have hts := atoms_spec (ws := wsX7_surePlan) B.pre
  have hown : s.vm.findClass RX7 = some m.cls := findClass_of_methodNamed B.named
  have hlocks := B.notSynchronized
  subst hsz
  have hD := hD0.self (sz := s.heap.size)
  generalize hAe : va_A [(a_m, .inr (7, [.int mkd, .int mrt, .int mri, .int mca, .int mpr, .int men, .ref a_mp, .ref a_me, .int mth, .int mrq, .ref a_mq, .long mtr, .ref a_mr, .ref a_mo, .int mos, .ref a_ml, .ref a_mt, .ref a_mf]))] s.heap.size = A at hD ⊢
  have hA : ∀ q : Nat, s.heap.size ≤ q → A q := fun q h => by rw [← hAe]; exact Or.inr h
  have hS : va_S A s.heap s.heap [] := va_S.rf
  obtain ⟨Q, hQ⟩ : ∃ Q : State → Prop, Q = MQ below (va_Qi (fun (r : Int32) (u : Unit) => K r) (poW (dC, dI) A (fun (u : Unit) => [(a_m, .inr (7, [.int mkd, .int mrt, .int mri, .int mca, .int mpr, .int men, .ref a_mp, .ref a_me, .int mth, .int mrq, .ref a_mq, .long mtr, .ref a_mr, .ref a_mo, .int mos, .ref a_ml, .ref a_mt, .ref a_mf]))])) A) args s 0 0 A := ⟨_, rfl⟩
  rw [← hQ]
  have hP : va_P (dC, dI) vwCl [(a_m, .inr (7, [.int mkd, .int mrt, .int mri, .int mca, .int mpr, .int men, .ref a_mp, .ref a_me, .int mth, .int mrq, .ref a_mq, .long mtr, .ref a_mr, .ref a_mo, .int mos, .ref a_ml, .ref a_mt, .ref a_mf]))] s.heap := hP
  refine en_ok hargs (Nat.le_of_ble_eq_true rfl) (fun ls hl => ?_)
  have hl : lv_has ls 5 [(0, .ref a_m)] := hl
  have h := hg
  unfold g_X7_surePlan at h
  refine lv_iconst (v := (1 : Int32)) hx hb dX7_surePlan_0 (by decide +kernel) ?_
  refine lv_istore_n (lv' := [(1, .int (1 : Int32)), (0, .ref a_m)]) hx hb dX7_surePlan_1 rfl hl (by decide) rfl (fun ls hl => ?_)
  refine lv_aload_n hx hb dX7_surePlan_2 rfl (lv_at hl 1 rfl) ?_
  refine lv_iconst (v := (1 : Int32)) hx hb dX7_surePlan_3 (by decide +kernel) ?_
  have hPc := hP.sub (ws' := [(a_m, .inr (7, [.int mkd, .int mrt, .int mri, .int mca, .int mpr, .int men, .ref a_mp, .ref a_me, .int mth, .int mrq, .ref a_mq, .long mtr, .ref a_mr, .ref a_mo, .int mos, .ref a_ml, .ref a_mt, .ref a_mf]))]) [0] rfl
  have hDc := hD.sub (ws' := [(a_m, .inr (7, [.int mkd, .int mrt, .int mri, .int mca, .int mpr, .int men, .ref a_mp, .ref a_me, .int mth, .int mrq, .ref a_mq, .long mtr, .ref a_mr, .ref a_mo, .int mos, .ref a_ml, .ref a_mt, .ref a_mf]))]) [0] (by decide) rfl
  refine fr_i (wr := []) (WN := fun (u4 : Unit) => [(a_m, .inr (7, [.int mkd, .int mrt, .int mri, .int mca, .int mpr, .int men, .ref a_mp, .ref a_me, .int mth, .int mrq, .ref a_mq, .long mtr, .ref a_mr, .ref a_mo, .int mos, .ref a_ml, .ref a_mt, .ref a_mf]))]) (va_runV (As := [.int (1 : Int32)]) (rest := []) ⟨hx, hb, hml, hown, hts⟩ (c_X7_worstEnd l dC dI kA a_m a_mp a_me a_mq a_mr a_mo a_ml a_mt a_mf s.heap.size mkd mrt mri mca mpr men mth mrq mtr mos (1 : Int32) _ h) (cwV 1 hts gX7_surePlan_X7_worstEnd rfl rfl rfl (by decide +kernel) ⟨Nat.le_of_ble_eq_true rfl, Nat.le_of_ble_eq_true rfl⟩) (prW.preV (ci := 7) (q0 := 0) hPc hDc hK hN rfl rfl) rfl rfl hl.1 rfl (lv_room (Nat.le_of_ble_eq_true rfl)) dX7_surePlan_4 ⟨Nat.le_of_ble_eq_true rfl, Nat.le_of_ble_eq_true rfl⟩) hP hD hS hA [0] [] rfl rfl (by decide) (by decide) [0] (by decide) (fun _ => rfl) (fun r4 u4 H locs h hP hD hS => ?_)
  have hP : va_P (dC, dI) vwCl [(a_m, .inr (7, [.int mkd, .int mrt, .int mri, .int mca, .int mpr, .int men, .ref a_mp, .ref a_me, .int mth, .int mrq, .ref a_mq, .long mtr, .ref a_mr, .ref a_mo, .int mos, .ref a_ml, .ref a_mt, .ref a_mf]))] H := hP
  have hD : va_D A [(a_m, .inr (7, [.int mkd, .int mrt, .int mri, .int mca, .int mpr, .int men, .ref a_mp, .ref a_me, .int mth, .int mrq, .ref a_mq, .long mtr, .ref a_mr, .ref a_mo, .int mos, .ref a_ml, .ref a_mt, .ref a_mf]))] := hD
  refine lv_istore_n (lv' := [(2, .int r4), (1, .int (1 : Int32)), (0, .ref a_m)]) hx hb dX7_surePlan_7 rfl hl (by decide) rfl (fun ls hl => ?_)
  refine lv_iconst (v := (2 : Int32)) hx hb dX7_surePlan_8 (by decide +kernel) ?_
  refine lv_istore_n (lv' := [(3, .int (2 : Int32)), (2, .int r4), (1, .int (1 : Int32)), (0, .ref a_m)]) hx hb dX7_surePlan_9 rfl hl (by decide) rfl (fun ls hl => ?_)
  obtain ⟨J10, ⟨n10, h⟩, hz10, hs10⟩ := h
  have hL10 : ∀ (n10 : Nat) (v1_10 : Int32) (v2_10 : Int32) (v3_10 : Int32), J10 n10 v1_10 v2_10 v3_10 → ∀ (H : Heap) (locs : List Loc) (ls : Array Slot), va_P (dC, dI) vwCl [(a_m, .inr (7, [.int mkd, .int mrt, .int mri, .int mca, .int mpr, .int men, .ref a_mp, .ref a_me, .int mth, .int mrq, .ref a_mq, .long mtr, .ref a_mr, .ref a_mo, .int mos, .ref a_ml, .ref a_mt, .ref a_mf]))] H → va_D A [(a_m, .inr (7, [.int mkd, .int mrt, .int mri, .int mca, .int mpr, .int men, .ref a_mp, .ref a_me, .int mth, .int mrq, .ref a_mq, .long mtr, .ref a_mr, .ref a_mo, .int mos, .ref a_ml, .ref a_mt, .ref a_mf]))] → va_S A s.heap H locs → lv_has ls 5 [(0, .ref a_m), (1, .int v1_10), (2, .int v2_10), (3, .int v3_10)] → W p l e (headSpec wsX7_surePlan rmX7_surePlan).room s m args below meth c H locs 0 0 Q (F0 m 10 ls []) := by
    intro n10
    induction n10 with
    | zero => intro v1_10 v2_10 v3_10 h; exact absurd h (hz10 v1_10 v2_10 v3_10)
    | succ n10 ih10 =>
      intro v1_10 v2_10 v3_10 h H locs ls hP hD hS hl
      replace h := hs10 n10 v1_10 v2_10 v3_10 h
      refine lv_iload_n hx hb dX7_surePlan_10 rfl (lv_at hl 3 rfl) ?_
      refine lv_aload_n hx hb dX7_surePlan_11 rfl (lv_at hl 0 rfl) ?_
      refine va_get (D := (dC, dI)) (ci := 7) (v := .int men) (C := RX7) (T := TX7) (N := 18) hx hb hts (fun _ h => List.mem_cons_of_mem _ (List.mem_append_right _ h)) hown hK hP 0 rfl rfl 5 (by decide) (hts (.fieldLink RX7 19 "RentOrBuyModel" "ends" "I") (List.mem_cons_of_mem _ (List.mem_append_left _ (List.mem_of_getElem? (i := 0) rfl)))) (fun _ h9 => h9) rfl dX7_surePlan_12 ?_
      refine lv_iconst (v := (1 : Int32)) hx hb dX7_surePlan_15 (by decide +kernel) ?_
      refine lv_iadd hx hb dX7_surePlan_16 ?_
      refine lv_icmp_gt (tgt := 72) hx hb dX7_surePlan_17 (by decide) (fun c17 => ?_) (fun c17 => ?_)
      · replace h := h.1 c17
        refine lv_iload_n hx hb dX7_surePlan_72 rfl (lv_at hl 1 rfl) ?_
        rw [hQ]
        exact rt_i () hx hb hr hlocks h hP hD hS dX7_surePlan_73
      · replace h := h.2 c17
        refine lv_aload_n hx hb dX7_surePlan_20 rfl (lv_at hl 0 rfl) ?_
        refine lv_iload_n hx hb dX7_surePlan_21 rfl (lv_at hl 3 rfl) ?_
        have hPc := hP.sub (ws' := [(a_m, .inr (7, [.int mkd, .int mrt, .int mri, .int mca, .int mpr, .int men, .ref a_mp, .ref a_me, .int mth, .int mrq, .ref a_mq, .long mtr, .ref a_mr, .ref a_mo, .int mos, .ref a_ml, .ref a_mt, .ref a_mf]))]) [0] rfl
        have hDc := hD.sub (ws' := [(a_m, .inr (7, [.int mkd, .int mrt, .int mri, .int mca, .int mpr, .int men, .ref a_mp, .ref a_me, .int mth, .int mrq, .ref a_mq, .long mtr, .ref a_mr, .ref a_mo, .int mos, .ref a_ml, .ref a_mt, .ref a_mf]))]) [0] (by decide) rfl
        refine fr_i (wr := []) (WN := fun (u22 : Unit) => [(a_m, .inr (7, [.int mkd, .int mrt, .int mri, .int mca, .int mpr, .int men, .ref a_mp, .ref a_me, .int mth, .int mrq, .ref a_mq, .long mtr, .ref a_mr, .ref a_mo, .int mos, .ref a_ml, .ref a_mt, .ref a_mf]))]) (va_runV (As := [.int v3_10]) (rest := []) ⟨hx, hb, hml, hown, hts⟩ (c_X7_worstEnd l dC dI kA a_m a_mp a_me a_mq a_mr a_mo a_ml a_mt a_mf H.size mkd mrt mri mca mpr men mth mrq mtr mos v3_10 _ h) (cwV 1 hts gX7_surePlan_X7_worstEnd rfl rfl rfl (by decide +kernel) ⟨Nat.le_of_ble_eq_true rfl, Nat.le_of_ble_eq_true rfl⟩) (prW.preV (ci := 7) (q0 := 0) hPc hDc hK hN rfl rfl) rfl rfl hl.1 rfl (lv_room (Nat.le_of_ble_eq_true rfl)) dX7_surePlan_22 ⟨Nat.le_of_ble_eq_true rfl, Nat.le_of_ble_eq_true rfl⟩) hP hD hS hA [0] [] rfl rfl (by decide) (by decide) [0] (by decide) (fun _ => rfl) (fun r22 u22 H locs h hP hD hS => ?_)
        have hP : va_P (dC, dI) vwCl [(a_m, .inr (7, [.int mkd, .int mrt, .int mri, .int mca, .int mpr, .int men, .ref a_mp, .ref a_me, .int mth, .int mrq, .ref a_mq, .long mtr, .ref a_mr, .ref a_mo, .int mos, .ref a_ml, .ref a_mt, .ref a_mf]))] H := hP
        have hD : va_D A [(a_m, .inr (7, [.int mkd, .int mrt, .int mri, .int mca, .int mpr, .int men, .ref a_mp, .ref a_me, .int mth, .int mrq, .ref a_mq, .long mtr, .ref a_mr, .ref a_mo, .int mos, .ref a_ml, .ref a_mt, .ref a_mf]))] := hD
        refine lv_istore (lv' := [(4, .int r22), (0, .ref a_m), (1, .int v1_10), (2, .int v2_10), (3, .int v3_10)]) hx hb dX7_surePlan_25 hl (by decide) rfl (fun ls hl => ?_)
        refine lv_aload_n hx hb dX7_surePlan_27 rfl (lv_at hl 1 rfl) ?_
        refine lv_iload_n hx hb dX7_surePlan_28 rfl (lv_at hl 4 rfl) ?_
        refine lv_iload hx hb dX7_surePlan_29 (lv_at hl 0 rfl) ?_
        have hPc := hP.sub (ws' := [(a_m, .inr (7, [.int mkd, .int mrt, .int mri, .int mca, .int mpr, .int men, .ref a_mp, .ref a_me, .int mth, .int mrq, .ref a_mq, .long mtr, .ref a_mr, .ref a_mo, .int mos, .ref a_ml, .ref a_mt, .ref a_mf]))]) [0] rfl
        have hDc := hD.sub (ws' := [(a_m, .inr (7, [.int mkd, .int mrt, .int mri, .int mca, .int mpr, .int men, .ref a_mp, .ref a_me, .int mth, .int mrq, .ref a_mq, .long mtr, .ref a_mr, .ref a_mo, .int mos, .ref a_ml, .ref a_mt, .ref a_mf]))]) [0] (by decide) rfl
        refine fr_i (wr := []) (WN := fun (u31 : Unit) => [(a_m, .inr (7, [.int mkd, .int mrt, .int mri, .int mca, .int mpr, .int men, .ref a_mp, .ref a_me, .int mth, .int mrq, .ref a_mq, .long mtr, .ref a_mr, .ref a_mo, .int mos, .ref a_ml, .ref a_mt, .ref a_mf]))]) (va_runV (As := [.int v3_10, .int r22]) (rest := []) ⟨hx, hb, hml, hown, hts⟩ (c_X7_costOf l dC dI kA a_m a_mp a_me a_mq a_mr a_mo a_ml a_mt a_mf H.size mkd mrt mri mca mpr men mth mrq mtr mos v3_10 r22 _ h) (cwV 2 hts gX7_surePlan_X7_costOf rfl rfl rfl (by decide +kernel) ⟨Nat.le_of_ble_eq_true rfl, Nat.le_of_ble_eq_true rfl⟩) (prW.preV (ci := 7) (q0 := 0) hPc hDc hK hN rfl rfl) rfl rfl hl.1 rfl (lv_room (Nat.le_of_ble_eq_true rfl)) dX7_surePlan_31 ⟨Nat.le_of_ble_eq_true rfl, Nat.le_of_ble_eq_true rfl⟩) hP hD hS hA [0] [] rfl rfl (by decide) (by decide) [0] (by decide) (fun _ => rfl) (fun r31 u31 H locs h hP hD hS => ?_)
        have hP : va_P (dC, dI) vwCl [(a_m, .inr (7, [.int mkd, .int mrt, .int mri, .int mca, .int mpr, .int men, .ref a_mp, .ref a_me, .int mth, .int mrq, .ref a_mq, .long mtr, .ref a_mr, .ref a_mo, .int mos, .ref a_ml, .ref a_mt, .ref a_mf]))] H := hP
        have hD : va_D A [(a_m, .inr (7, [.int mkd, .int mrt, .int mri, .int mca, .int mpr, .int men, .ref a_mp, .ref a_me, .int mth, .int mrq, .ref a_mq, .long mtr, .ref a_mr, .ref a_mo, .int mos, .ref a_ml, .ref a_mt, .ref a_mf]))] := hD
        refine lv_i2l hx hb dX7_surePlan_34 rfl ?_
        refine lv_aload_n hx hb dX7_surePlan_35 rfl (lv_at hl 1 rfl) ?_
        refine lv_iload_n hx hb dX7_surePlan_36 rfl (lv_at hl 3 rfl) ?_
        have hPc := hP.sub (ws' := [(a_m, .inr (7, [.int mkd, .int mrt, .int mri, .int mca, .int mpr, .int men, .ref a_mp, .ref a_me, .int mth, .int mrq, .ref a_mq, .long mtr, .ref a_mr, .ref a_mo, .int mos, .ref a_ml, .ref a_mt, .ref a_mf]))]) [0] rfl
        have hDc := hD.sub (ws' := [(a_m, .inr (7, [.int mkd, .int mrt, .int mri, .int mca, .int mpr, .int men, .ref a_mp, .ref a_me, .int mth, .int mrq, .ref a_mq, .long mtr, .ref a_mr, .ref a_mo, .int mos, .ref a_ml, .ref a_mt, .ref a_mf]))]) [0] (by decide) rfl
        refine fr_i (wr := []) (WN := fun (u37 : Unit) => [(a_m, .inr (7, [.int mkd, .int mrt, .int mri, .int mca, .int mpr, .int men, .ref a_mp, .ref a_me, .int mth, .int mrq, .ref a_mq, .long mtr, .ref a_mr, .ref a_mo, .int mos, .ref a_ml, .ref a_mt, .ref a_mf]))]) (va_runV (As := [.int v2_10]) (rest := [.long r31.toInt64]) ⟨hx, hb, hml, hown, hts⟩ (c_X7_knownBy l dC dI kA a_m a_mp a_me a_mq a_mr a_mo a_ml a_mt a_mf H.size mkd mrt mri mca mpr men mth mrq mtr mos v2_10 _ h) (cwV 1 hts gX7_surePlan_X7_knownBy rfl rfl rfl (by decide +kernel) ⟨Nat.le_of_ble_eq_true rfl, Nat.le_of_ble_eq_true rfl⟩) (prW.preV (ci := 7) (q0 := 0) hPc hDc hK hN rfl rfl) rfl rfl hl.1 rfl (lv_room (Nat.le_of_ble_eq_true rfl)) dX7_surePlan_37 ⟨Nat.le_of_ble_eq_true rfl, Nat.le_of_ble_eq_true rfl⟩) hP hD hS hA [0] [] rfl rfl (by decide) (by decide) [0] (by decide) (fun _ => rfl) (fun r37 u37 H locs h hP hD hS => ?_)
        have hP : va_P (dC, dI) vwCl [(a_m, .inr (7, [.int mkd, .int mrt, .int mri, .int mca, .int mpr, .int men, .ref a_mp, .ref a_me, .int mth, .int mrq, .ref a_mq, .long mtr, .ref a_mr, .ref a_mo, .int mos, .ref a_ml, .ref a_mt, .ref a_mf]))] H := hP
        have hD : va_D A [(a_m, .inr (7, [.int mkd, .int mrt, .int mri, .int mca, .int mpr, .int men, .ref a_mp, .ref a_me, .int mth, .int mrq, .ref a_mq, .long mtr, .ref a_mr, .ref a_mo, .int mos, .ref a_ml, .ref a_mt, .ref a_mf]))] := hD
        refine lv_i2l hx hb dX7_surePlan_40 rfl ?_
        refine lv_lmul hx hb dX7_surePlan_41 ?_
        refine lv_aload_n hx hb dX7_surePlan_42 rfl (lv_at hl 1 rfl) ?_
        refine lv_iload_n hx hb dX7_surePlan_43 rfl (lv_at hl 2 rfl) ?_
        refine lv_iload_n hx hb dX7_surePlan_44 rfl (lv_at hl 3 rfl) ?_
        have hPc := hP.sub (ws' := [(a_m, .inr (7, [.int mkd, .int mrt, .int mri, .int mca, .int mpr, .int men, .ref a_mp, .ref a_me, .int mth, .int mrq, .ref a_mq, .long mtr, .ref a_mr, .ref a_mo, .int mos, .ref a_ml, .ref a_mt, .ref a_mf]))]) [0] rfl
        have hDc := hD.sub (ws' := [(a_m, .inr (7, [.int mkd, .int mrt, .int mri, .int mca, .int mpr, .int men, .ref a_mp, .ref a_me, .int mth, .int mrq, .ref a_mq, .long mtr, .ref a_mr, .ref a_mo, .int mos, .ref a_ml, .ref a_mt, .ref a_mf]))]) [0] (by decide) rfl
        refine fr_i (wr := []) (WN := fun (u45 : Unit) => [(a_m, .inr (7, [.int mkd, .int mrt, .int mri, .int mca, .int mpr, .int men, .ref a_mp, .ref a_me, .int mth, .int mrq, .ref a_mq, .long mtr, .ref a_mr, .ref a_mo, .int mos, .ref a_ml, .ref a_mt, .ref a_mf]))]) (va_runV (As := [.int v1_10, .int v2_10]) (rest := [.long (r31.toInt64 * r37.toInt64)]) ⟨hx, hb, hml, hown, hts⟩ (c_X7_costOf l dC dI kA a_m a_mp a_me a_mq a_mr a_mo a_ml a_mt a_mf H.size mkd mrt mri mca mpr men mth mrq mtr mos v1_10 v2_10 _ h) (cwV 2 hts gX7_surePlan_X7_costOf rfl rfl rfl (by decide +kernel) ⟨Nat.le_of_ble_eq_true rfl, Nat.le_of_ble_eq_true rfl⟩) (prW.preV (ci := 7) (q0 := 0) hPc hDc hK hN rfl rfl) rfl rfl hl.1 rfl (lv_room (Nat.le_of_ble_eq_true rfl)) dX7_surePlan_45 ⟨Nat.le_of_ble_eq_true rfl, Nat.le_of_ble_eq_true rfl⟩) hP hD hS hA [0] [] rfl rfl (by decide) (by decide) [0] (by decide) (fun _ => rfl) (fun r45 u45 H locs h hP hD hS => ?_)
        have hP : va_P (dC, dI) vwCl [(a_m, .inr (7, [.int mkd, .int mrt, .int mri, .int mca, .int mpr, .int men, .ref a_mp, .ref a_me, .int mth, .int mrq, .ref a_mq, .long mtr, .ref a_mr, .ref a_mo, .int mos, .ref a_ml, .ref a_mt, .ref a_mf]))] H := hP
        have hD : va_D A [(a_m, .inr (7, [.int mkd, .int mrt, .int mri, .int mca, .int mpr, .int men, .ref a_mp, .ref a_me, .int mth, .int mrq, .ref a_mq, .long mtr, .ref a_mr, .ref a_mo, .int mos, .ref a_ml, .ref a_mt, .ref a_mf]))] := hD
        refine lv_i2l hx hb dX7_surePlan_48 rfl ?_
        refine lv_aload_n hx hb dX7_surePlan_49 rfl (lv_at hl 1 rfl) ?_
        refine lv_iload hx hb dX7_surePlan_50 (lv_at hl 0 rfl) ?_
        have hPc := hP.sub (ws' := [(a_m, .inr (7, [.int mkd, .int mrt, .int mri, .int mca, .int mpr, .int men, .ref a_mp, .ref a_me, .int mth, .int mrq, .ref a_mq, .long mtr, .ref a_mr, .ref a_mo, .int mos, .ref a_ml, .ref a_mt, .ref a_mf]))]) [0] rfl
        have hDc := hD.sub (ws' := [(a_m, .inr (7, [.int mkd, .int mrt, .int mri, .int mca, .int mpr, .int men, .ref a_mp, .ref a_me, .int mth, .int mrq, .ref a_mq, .long mtr, .ref a_mr, .ref a_mo, .int mos, .ref a_ml, .ref a_mt, .ref a_mf]))]) [0] (by decide) rfl
        refine fr_i (wr := []) (WN := fun (u52 : Unit) => [(a_m, .inr (7, [.int mkd, .int mrt, .int mri, .int mca, .int mpr, .int men, .ref a_mp, .ref a_me, .int mth, .int mrq, .ref a_mq, .long mtr, .ref a_mr, .ref a_mo, .int mos, .ref a_ml, .ref a_mt, .ref a_mf]))]) (va_runV (As := [.int r22]) (rest := [.long r45.toInt64, .long (r31.toInt64 * r37.toInt64)]) ⟨hx, hb, hml, hown, hts⟩ (c_X7_knownBy l dC dI kA a_m a_mp a_me a_mq a_mr a_mo a_ml a_mt a_mf H.size mkd mrt mri mca mpr men mth mrq mtr mos r22 _ h) (cwV 1 hts gX7_surePlan_X7_knownBy rfl rfl rfl (by decide +kernel) ⟨Nat.le_of_ble_eq_true rfl, Nat.le_of_ble_eq_true rfl⟩) (prW.preV (ci := 7) (q0 := 0) hPc hDc hK hN rfl rfl) rfl rfl hl.1 rfl (lv_room (Nat.le_of_ble_eq_true rfl)) dX7_surePlan_52 ⟨Nat.le_of_ble_eq_true rfl, Nat.le_of_ble_eq_true rfl⟩) hP hD hS hA [0] [] rfl rfl (by decide) (by decide) [0] (by decide) (fun _ => rfl) (fun r52 u52 H locs h hP hD hS => ?_)
        have hP : va_P (dC, dI) vwCl [(a_m, .inr (7, [.int mkd, .int mrt, .int mri, .int mca, .int mpr, .int men, .ref a_mp, .ref a_me, .int mth, .int mrq, .ref a_mq, .long mtr, .ref a_mr, .ref a_mo, .int mos, .ref a_ml, .ref a_mt, .ref a_mf]))] H := hP
        have hD : va_D A [(a_m, .inr (7, [.int mkd, .int mrt, .int mri, .int mca, .int mpr, .int men, .ref a_mp, .ref a_me, .int mth, .int mrq, .ref a_mq, .long mtr, .ref a_mr, .ref a_mo, .int mos, .ref a_ml, .ref a_mt, .ref a_mf]))] := hD
        refine lv_i2l hx hb dX7_surePlan_55 rfl ?_
        refine lv_lmul hx hb dX7_surePlan_56 ?_
        refine W.lcmp hx hb dX7_surePlan_57 ?_
        obtain ⟨J66, hR66, h⟩ := h
        have hJ66 : ∀ (v1_66 : Int32) (v2_66 : Int32), J66 v1_66 v2_66 → ∀ (H : Heap) (locs : List Loc) (ls : Array Slot), va_P (dC, dI) vwCl [(a_m, .inr (7, [.int mkd, .int mrt, .int mri, .int mca, .int mpr, .int men, .ref a_mp, .ref a_me, .int mth, .int mrq, .ref a_mq, .long mtr, .ref a_mr, .ref a_mo, .int mos, .ref a_ml, .ref a_mt, .ref a_mf]))] H → va_D A [(a_m, .inr (7, [.int mkd, .int mrt, .int mri, .int mca, .int mpr, .int men, .ref a_mp, .ref a_me, .int mth, .int mrq, .ref a_mq, .long mtr, .ref a_mr, .ref a_mo, .int mos, .ref a_ml, .ref a_mt, .ref a_mf]))] → va_S A s.heap H locs → lv_has ls 5 [(0, .ref a_m), (1, .int v1_66), (2, .int v2_66), (3, .int v3_10)] → W p l e (headSpec wsX7_surePlan rmX7_surePlan).room s m args below meth c H locs 0 0 Q (F0 m 66 ls []) := by
          intro v1_66 v2_66 h H locs ls hP hD hS hl
          replace h := hR66 v1_66 v2_66 h
          refine lv_iinc (v := (v3_10 + (1 : Int32))) (lv' := [(3, .int (v3_10 + (1 : Int32))), (0, .ref a_m), (1, .int v1_66), (2, .int v2_66)]) hx hb dX7_surePlan_66 hl (k := 3) rfl (by rfl) (by decide) rfl (fun ls hl => ?_)
          refine lv_goto (tgt := 10) hx hb dX7_surePlan_69 (by decide) ?_
          exact ih10 v1_66 v2_66 (v3_10 + (1 : Int32)) h _ _ _ hP hD hS (lv_sub hl [1, 2, 3, 0] rfl)
        refine lv_if_ge (tgt := 66) hx hb dX7_surePlan_58 (by decide) (fun c58 => ?_) (fun c58 => ?_)
        · replace h := h.1 c58
          exact hJ66 v1_10 v2_10 h _ _ _ hP hD hS (lv_sub hl [1, 2, 3, 4] rfl)
        · replace h := h.2 c58
          refine lv_iload_n hx hb dX7_surePlan_61 rfl (lv_at hl 4 rfl) ?_
          refine lv_istore_n (lv' := [(1, .int v3_10), (4, .int r22), (0, .ref a_m), (2, .int v2_10), (3, .int v3_10)]) hx hb dX7_surePlan_62 rfl hl (by decide) rfl (fun ls hl => ?_)
          refine lv_iload hx hb dX7_surePlan_63 (lv_at hl 1 rfl) ?_
          refine lv_istore_n (lv' := [(2, .int r22), (1, .int v3_10), (4, .int r22), (0, .ref a_m), (3, .int v3_10)]) hx hb dX7_surePlan_65 rfl hl (by decide) rfl (fun ls hl => ?_)
          exact hJ66 v3_10 r22 h _ _ _ hP hD hS (lv_sub hl [3, 1, 0, 4] rfl)
  exact hL10 n10 (1 : Int32) r4 (2 : Int32) h _ _ _ hP hD hS (lv_sub hl [3, 2, 1, 0] rfl)

/-- RentOrBuyModel.planBy -/
def rmX7_planBy : Room := { frames := 5, cells := 0, slots := 0, locals := 114 }
set_option maxHeartbeats 4000000 in
set_option maxRecDepth 100000 in
theorem c_X7_planBy (l : Launch) (dC : Nat → ClassId) (dI : Nat → Nat → Nat) (kA : ClassId) (a_m a_mp a_me a_mq a_mr a_mo a_ml a_mt a_mf : Nat) (sz : Nat) (mkd : Int32) (mrt : Int32) (mri : Int32) (mca : Int32) (mpr : Int32) (men : Int32) (mth : Int32) (mrq : Int32) (mtr : Int64) (mos : Int32) (p1 : Int32) (p2 : Int32) (K : Int32 → Prop) (hg : g_X7_planBy mkd mrt mri mca mpr men mth mrq mtr mos p1 p2 K) : Met l yX7_planBy wsX7_planBy rmX7_planBy (va_Pc [.ref a_m, .int p1, .int p2] (prW (dC, dI) kA sz [(a_m, .inr (7, [.int mkd, .int mrt, .int mri, .int mca, .int mpr, .int men, .ref a_mp, .ref a_me, .int mth, .int mrq, .ref a_mq, .long mtr, .ref a_mr, .ref a_mo, .int mos, .ref a_ml, .ref a_mt, .ref a_mf]))])) (va_Qi (fun (r : Int32) (u : Unit) => K r) (poW (dC, dI) (va_A [(a_m, .inr (7, [.int mkd, .int mrt, .int mri, .int mca, .int mpr, .int men, .ref a_mp, .ref a_me, .int mth, .int mrq, .ref a_mq, .long mtr, .ref a_mr, .ref a_mo, .int mos, .ref a_ml, .ref a_mt, .ref a_mf]))] sz) (fun (u : Unit) => [(a_m, .inr (7, [.int mkd, .int mrt, .int mri, .int mca, .int mpr, .int men, .ref a_mp, .ref a_me, .int mth, .int mrq, .ref a_mq, .long mtr, .ref a_mr, .ref a_mo, .int mos, .ref a_ml, .ref a_mt, .ref a_mf]))])) (va_A [(a_m, .inr (7, [.int mkd, .int mrt, .int mri, .int mca, .int mpr, .int men, .ref a_mp, .ref a_me, .int mth, .int mrq, .ref a_mq, .long mtr, .ref a_mr, .ref a_mo, .int mos, .ref a_ml, .ref a_mt, .ref a_mf]))] sz)) 0 0 (va_A [(a_m, .inr (7, [.int mkd, .int mrt, .int mri, .int mca, .int mpr, .int men, .ref a_mp, .ref a_me, .int mth, .int mrq, .ref a_mq, .long mtr, .ref a_mr, .ref a_mo, .int mos, .ref a_ml, .ref a_mt, .ref a_mf]))] sz) := by
  refine Met.ofW (cc := cX7_planBy) (maxL := 5) (ret := (some .int)) (by decide) rfl ?_
  intro p e s m args below meth c s₁ B hml hv
  obtain ⟨hargs, hsz, hP, hK, hD0, hN⟩ := hv
  have hx := B.exec
  have hb := B.bytes
  have hr := B.returns
  have hts := atoms_spec (ws := wsX7_planBy) B.pre
  have hown : s.vm.findClass RX7 = some m.cls := findClass_of_methodNamed B.named
  have hlocks := B.notSynchronized
  subst hsz
  have hD := hD0.self (sz := s.heap.size)
  generalize hAe : va_A [(a_m, .inr (7, [.int mkd, .int mrt, .int mri, .int mca, .int mpr, .int men, .ref a_mp, .ref a_me, .int mth, .int mrq, .ref a_mq, .long mtr, .ref a_mr, .ref a_mo, .int mos, .ref a_ml, .ref a_mt, .ref a_mf]))] s.heap.size = A at hD ⊢
  have hA : ∀ q : Nat, s.heap.size ≤ q → A q := fun q h => by rw [← hAe]; exact Or.inr h
  have hS : va_S A s.heap s.heap [] := va_S.rf
  obtain ⟨Q, hQ⟩ : ∃ Q : State → Prop, Q = MQ below (va_Qi (fun (r : Int32) (u : Unit) => K r) (poW (dC, dI) A (fun (u : Unit) => [(a_m, .inr (7, [.int mkd, .int mrt, .int mri, .int mca, .int mpr, .int men, .ref a_mp, .ref a_me, .int mth, .int mrq, .ref a_mq, .long mtr, .ref a_mr, .ref a_mo, .int mos, .ref a_ml, .ref a_mt, .ref a_mf]))])) A) args s 0 0 A := ⟨_, rfl⟩
  rw [← hQ]
  have hP : va_P (dC, dI) vwCl [(a_m, .inr (7, [.int mkd, .int mrt, .int mri, .int mca, .int mpr, .int men, .ref a_mp, .ref a_me, .int mth, .int mrq, .ref a_mq, .long mtr, .ref a_mr, .ref a_mo, .int mos, .ref a_ml, .ref a_mt, .ref a_mf]))] s.heap := hP
  refine en_ok hargs (Nat.le_of_ble_eq_true rfl) (fun ls hl => ?_)
  have hl : lv_has ls 5 [(0, .ref a_m), (1, .int p1), (2, .int p2)] := hl
  have h := hg
  unfold g_X7_planBy at h
  refine lv_aload_n hx hb dX7_planBy_0 rfl (lv_at hl 0 rfl) ?_
  have hPc := hP.sub (ws' := [(a_m, .inr (7, [.int mkd, .int mrt, .int mri, .int mca, .int mpr, .int men, .ref a_mp, .ref a_me, .int mth, .int mrq, .ref a_mq, .long mtr, .ref a_mr, .ref a_mo, .int mos, .ref a_ml, .ref a_mt, .ref a_mf]))]) [0] rfl
  have hDc := hD.sub (ws' := [(a_m, .inr (7, [.int mkd, .int mrt, .int mri, .int mca, .int mpr, .int men, .ref a_mp, .ref a_me, .int mth, .int mrq, .ref a_mq, .long mtr, .ref a_mr, .ref a_mo, .int mos, .ref a_ml, .ref a_mt, .ref a_mf]))]) [0] (by decide) rfl
  refine fr_i (wr := []) (WN := fun (u1 : Unit) => [(a_m, .inr (7, [.int mkd, .int mrt, .int mri, .int mca, .int mpr, .int men, .ref a_mp, .ref a_me, .int mth, .int mrq, .ref a_mq, .long mtr, .ref a_mr, .ref a_mo, .int mos, .ref a_ml, .ref a_mt, .ref a_mf]))]) (va_runV (As := []) (rest := []) ⟨hx, hb, hml, hown, hts⟩ (c_X7_surePlan l dC dI kA a_m a_mp a_me a_mq a_mr a_mo a_ml a_mt a_mf s.heap.size mkd mrt mri mca mpr men mth mrq mtr mos _ h) (cwV 0 hts gX7_planBy_X7_surePlan rfl rfl rfl (by decide +kernel) ⟨Nat.le_of_ble_eq_true rfl, Nat.le_of_ble_eq_true rfl⟩) (prW.preV (ci := 7) (q0 := 0) hPc hDc hK hN rfl rfl) rfl rfl hl.1 rfl (lv_room (Nat.le_of_ble_eq_true rfl)) dX7_planBy_1 ⟨Nat.le_of_ble_eq_true rfl, Nat.le_of_ble_eq_true rfl⟩) hP hD hS hA [0] [] rfl rfl (by decide) (by decide) [0] (by decide) (fun _ => rfl) (fun r1 u1 H locs h hP hD hS => ?_)
  have hP : va_P (dC, dI) vwCl [(a_m, .inr (7, [.int mkd, .int mrt, .int mri, .int mca, .int mpr, .int men, .ref a_mp, .ref a_me, .int mth, .int mrq, .ref a_mq, .long mtr, .ref a_mr, .ref a_mo, .int mos, .ref a_ml, .ref a_mt, .ref a_mf]))] H := hP
  have hD : va_D A [(a_m, .inr (7, [.int mkd, .int mrt, .int mri, .int mca, .int mpr, .int men, .ref a_mp, .ref a_me, .int mth, .int mrq, .ref a_mq, .long mtr, .ref a_mr, .ref a_mo, .int mos, .ref a_ml, .ref a_mt, .ref a_mf]))] := hD
  refine lv_istore_n (lv' := [(3, .int r1), (0, .ref a_m), (1, .int p1), (2, .int p2)]) hx hb dX7_planBy_4 rfl hl (by decide) rfl (fun ls hl => ?_)
  refine lv_aload_n hx hb dX7_planBy_5 rfl (lv_at hl 1 rfl) ?_
  refine va_get (D := (dC, dI)) (ci := 7) (v := .int mpr) (C := RX7) (T := TX7) (N := 18) hx hb hts (fun _ h => List.mem_cons_of_mem _ (List.mem_append_right _ h)) hown hK hP 0 rfl rfl 4 (by decide) (hts (.fieldLink RX7 16 "RentOrBuyModel" "price" "I") (List.mem_cons_of_mem _ (List.mem_append_left _ (List.mem_of_getElem? (i := 0) rfl)))) (fun _ h9 => h9) rfl dX7_planBy_6 ?_
  refine lv_aload_n hx hb dX7_planBy_9 rfl (lv_at hl 1 rfl) ?_
  refine lv_iload_n hx hb dX7_planBy_10 rfl (lv_at hl 2 rfl) ?_
  have hPc := hP.sub (ws' := [(a_m, .inr (7, [.int mkd, .int mrt, .int mri, .int mca, .int mpr, .int men, .ref a_mp, .ref a_me, .int mth, .int mrq, .ref a_mq, .long mtr, .ref a_mr, .ref a_mo, .int mos, .ref a_ml, .ref a_mt, .ref a_mf]))]) [0] rfl
  have hDc := hD.sub (ws' := [(a_m, .inr (7, [.int mkd, .int mrt, .int mri, .int mca, .int mpr, .int men, .ref a_mp, .ref a_me, .int mth, .int mrq, .ref a_mq, .long mtr, .ref a_mr, .ref a_mo, .int mos, .ref a_ml, .ref a_mt, .ref a_mf]))]) [0] (by decide) rfl
  refine fr_i (wr := []) (WN := fun (u11 : Unit) => [(a_m, .inr (7, [.int mkd, .int mrt, .int mri, .int mca, .int mpr, .int men, .ref a_mp, .ref a_me, .int mth, .int mrq, .ref a_mq, .long mtr, .ref a_mr, .ref a_mo, .int mos, .ref a_ml, .ref a_mt, .ref a_mf]))]) (va_runV (As := [.int p1]) (rest := [.int mpr]) ⟨hx, hb, hml, hown, hts⟩ (c_X7_rentsTo l dC dI kA a_m a_mp a_me a_mq a_mr a_mo a_ml a_mt a_mf H.size mkd mrt mri mca mpr men mth mrq mtr mos p1 _ h) (cwV 1 hts gX7_planBy_X7_rentsTo rfl rfl rfl (by decide +kernel) ⟨Nat.le_of_ble_eq_true rfl, Nat.le_of_ble_eq_true rfl⟩) (prW.preV (ci := 7) (q0 := 0) hPc hDc hK hN rfl rfl) rfl rfl hl.1 rfl (lv_room (Nat.le_of_ble_eq_true rfl)) dX7_planBy_11 ⟨Nat.le_of_ble_eq_true rfl, Nat.le_of_ble_eq_true rfl⟩) hP hD hS hA [0] [] rfl rfl (by decide) (by decide) [0] (by decide) (fun _ => rfl) (fun r11 u11 H locs h hP hD hS => ?_)
  have hP : va_P (dC, dI) vwCl [(a_m, .inr (7, [.int mkd, .int mrt, .int mri, .int mca, .int mpr, .int men, .ref a_mp, .ref a_me, .int mth, .int mrq, .ref a_mq, .long mtr, .ref a_mr, .ref a_mo, .int mos, .ref a_ml, .ref a_mt, .ref a_mf]))] H := hP
  have hD : va_D A [(a_m, .inr (7, [.int mkd, .int mrt, .int mri, .int mca, .int mpr, .int men, .ref a_mp, .ref a_me, .int mth, .int mrq, .ref a_mq, .long mtr, .ref a_mr, .ref a_mo, .int mos, .ref a_ml, .ref a_mt, .ref a_mf]))] := hD
  refine lv_icmp_ge (tgt := 27) hx hb dX7_planBy_14 (by decide) (fun c14 => ?_) (fun c14 => ?_)
  · replace h := h.1 c14
    refine lv_iload_n hx hb dX7_planBy_27 rfl (lv_at hl 0 rfl) ?_
    refine lv_bipush (v := (10 : Int32)) hx hb dX7_planBy_28 (by decide +kernel) ?_
    refine lv_imul hx hb dX7_planBy_30 ?_
    refine lv_iload_n hx hb dX7_planBy_31 rfl (lv_at hl 3 rfl) ?_
    obtain ⟨hz32, h⟩ := h
    refine lv_idiv hx hb dX7_planBy_32 hz32 ?_
    refine lv_istore (lv' := [(4, .int ((r1 * (10 : Int32)) / p2)), (3, .int r1), (0, .ref a_m), (1, .int p1), (2, .int p2)]) hx hb dX7_planBy_33 hl (by decide) rfl (fun ls hl => ?_)
    refine lv_iload hx hb dX7_planBy_35 (lv_at hl 0 rfl) ?_
    refine lv_aload_n hx hb dX7_planBy_37 rfl (lv_at hl 2 rfl) ?_
    refine va_get (D := (dC, dI)) (ci := 7) (v := .int men) (C := RX7) (T := TX7) (N := 18) hx hb hts (fun _ h => List.mem_cons_of_mem _ (List.mem_append_right _ h)) hown hK hP 0 rfl rfl 5 (by decide) (hts (.fieldLink RX7 19 "RentOrBuyModel" "ends" "I") (List.mem_cons_of_mem _ (List.mem_append_left _ (List.mem_of_getElem? (i := 1) rfl)))) (fun _ h9 => h9) rfl dX7_planBy_38 ?_
    refine lv_iconst (v := (1 : Int32)) hx hb dX7_planBy_41 (by decide +kernel) ?_
    refine lv_iadd hx hb dX7_planBy_42 ?_
    refine lv_icmp_le (tgt := 55) hx hb dX7_planBy_43 (by decide) (fun c43 => ?_) (fun c43 => ?_)
    · replace h := h.1 c43
      refine lv_iload hx hb dX7_planBy_55 (lv_at hl 0 rfl) ?_
      rw [hQ]
      exact rt_i () hx hb hr hlocks h hP hD hS dX7_planBy_57
    · replace h := h.2 c43
      refine lv_aload_n hx hb dX7_planBy_46 rfl (lv_at hl 2 rfl) ?_
      refine va_get (D := (dC, dI)) (ci := 7) (v := .int men) (C := RX7) (T := TX7) (N := 18) hx hb hts (fun _ h => List.mem_cons_of_mem _ (List.mem_append_right _ h)) hown hK hP 0 rfl rfl 5 (by decide) (hts (.fieldLink RX7 19 "RentOrBuyModel" "ends" "I") (List.mem_cons_of_mem _ (List.mem_append_left _ (List.mem_of_getElem? (i := 1) rfl)))) (fun _ h9 => h9) rfl dX7_planBy_47 ?_
      refine lv_iconst (v := (1 : Int32)) hx hb dX7_planBy_50 (by decide +kernel) ?_
      refine lv_iadd hx hb dX7_planBy_51 ?_
      refine lv_goto (tgt := 57) hx hb dX7_planBy_52 (by decide) ?_
      rw [hQ]
      exact rt_i () hx hb hr hlocks h hP hD hS dX7_planBy_57
  · replace h := h.2 c14
    refine lv_iload_n hx hb dX7_planBy_17 rfl (lv_at hl 0 rfl) ?_
    refine lv_iload_n hx hb dX7_planBy_18 rfl (lv_at hl 3 rfl) ?_
    refine lv_imul hx hb dX7_planBy_19 ?_
    refine lv_bipush (v := (9 : Int32)) hx hb dX7_planBy_20 (by decide +kernel) ?_
    refine lv_iadd hx hb dX7_planBy_22 ?_
    refine lv_bipush (v := (10 : Int32)) hx hb dX7_planBy_23 (by decide +kernel) ?_
    obtain ⟨hz25, h⟩ := h
    refine lv_idiv hx hb dX7_planBy_25 hz25 ?_
    rw [hQ]
    exact rt_i () hx hb hr hlocks h hP hD hS dX7_planBy_26

/-- RentOrBuyModel.guess -/
def rmX7_guess : Room := { frames := 6, cells := 0, slots := 0, locals := 138 }
set_option maxHeartbeats 4000000 in
set_option maxRecDepth 100000 in
theorem c_X7_guess (l : Launch) (dC : Nat → ClassId) (dI : Nat → Nat → Nat) (kA : ClassId) (a_m a_mp a_me a_mq a_mr a_mo a_ml a_mt a_mf : Nat) (sz : Nat) (mkd : Int32) (mrt : Int32) (mri : Int32) (mca : Int32) (mpr : Int32) (men : Int32) (mth : Int32) (mrq : Int32) (mtr : Int64) (mos : Int32) (p1 : Int32) (p2 : Int32) (K : Int32 → Prop) (hg : g_X7_guess mkd mrt mri mca mpr men mth mrq mtr mos p1 p2 K) : Met l yX7_guess wsX7_guess rmX7_guess (va_Pc [.ref a_m, .int p1, .int p2] (prW (dC, dI) kA sz [(a_m, .inr (7, [.int mkd, .int mrt, .int mri, .int mca, .int mpr, .int men, .ref a_mp, .ref a_me, .int mth, .int mrq, .ref a_mq, .long mtr, .ref a_mr, .ref a_mo, .int mos, .ref a_ml, .ref a_mt, .ref a_mf]))])) (va_Qi (fun (r : Int32) (u : Unit) => K r) (poW (dC, dI) (va_A [(a_m, .inr (7, [.int mkd, .int mrt, .int mri, .int mca, .int mpr, .int men, .ref a_mp, .ref a_me, .int mth, .int mrq, .ref a_mq, .long mtr, .ref a_mr, .ref a_mo, .int mos, .ref a_ml, .ref a_mt, .ref a_mf]))] sz) (fun (u : Unit) => [(a_m, .inr (7, [.int mkd, .int mrt, .int mri, .int mca, .int mpr, .int men, .ref a_mp, .ref a_me, .int mth, .int mrq, .ref a_mq, .long mtr, .ref a_mr, .ref a_mo, .int mos, .ref a_ml, .ref a_mt, .ref a_mf]))])) (va_A [(a_m, .inr (7, [.int mkd, .int mrt, .int mri, .int mca, .int mpr, .int men, .ref a_mp, .ref a_me, .int mth, .int mrq, .ref a_mq, .long mtr, .ref a_mr, .ref a_mo, .int mos, .ref a_ml, .ref a_mt, .ref a_mf]))] sz)) 0 0 (va_A [(a_m, .inr (7, [.int mkd, .int mrt, .int mri, .int mca, .int mpr, .int men, .ref a_mp, .ref a_me, .int mth, .int mrq, .ref a_mq, .long mtr, .ref a_mr, .ref a_mo, .int mos, .ref a_ml, .ref a_mt, .ref a_mf]))] sz) := by
  refine Met.ofW (cc := cX7_guess) (maxL := 3) (ret := (some .int)) (by decide) rfl ?_
  intro p e s m args below meth c s₁ B hml hv
  obtain ⟨hargs, hsz, hP, hK, hD0, hN⟩ := hv
  have hx := B.exec
  have hb := B.bytes
  have hr := B.returns
  have hts := atoms_spec (ws := wsX7_guess) B.pre
  have hown : s.vm.findClass RX7 = some m.cls := findClass_of_methodNamed B.named
  have hlocks := B.notSynchronized
  subst hsz
  have hD := hD0.self (sz := s.heap.size)
  generalize hAe : va_A [(a_m, .inr (7, [.int mkd, .int mrt, .int mri, .int mca, .int mpr, .int men, .ref a_mp, .ref a_me, .int mth, .int mrq, .ref a_mq, .long mtr, .ref a_mr, .ref a_mo, .int mos, .ref a_ml, .ref a_mt, .ref a_mf]))] s.heap.size = A at hD ⊢
  have hA : ∀ q : Nat, s.heap.size ≤ q → A q := fun q h => by rw [← hAe]; exact Or.inr h
  have hS : va_S A s.heap s.heap [] := va_S.rf
  obtain ⟨Q, hQ⟩ : ∃ Q : State → Prop, Q = MQ below (va_Qi (fun (r : Int32) (u : Unit) => K r) (poW (dC, dI) A (fun (u : Unit) => [(a_m, .inr (7, [.int mkd, .int mrt, .int mri, .int mca, .int mpr, .int men, .ref a_mp, .ref a_me, .int mth, .int mrq, .ref a_mq, .long mtr, .ref a_mr, .ref a_mo, .int mos, .ref a_ml, .ref a_mt, .ref a_mf]))])) A) args s 0 0 A := ⟨_, rfl⟩
  rw [← hQ]
  have hP : va_P (dC, dI) vwCl [(a_m, .inr (7, [.int mkd, .int mrt, .int mri, .int mca, .int mpr, .int men, .ref a_mp, .ref a_me, .int mth, .int mrq, .ref a_mq, .long mtr, .ref a_mr, .ref a_mo, .int mos, .ref a_ml, .ref a_mt, .ref a_mf]))] s.heap := hP
  refine en_ok hargs (Nat.le_of_ble_eq_true rfl) (fun ls hl => ?_)
  have hl : lv_has ls 3 [(0, .ref a_m), (1, .int p1), (2, .int p2)] := hl
  have h := hg
  unfold g_X7_guess at h
  refine lv_aload_n hx hb dX7_guess_0 rfl (lv_at hl 0 rfl) ?_
  refine lv_iload_n hx hb dX7_guess_1 rfl (lv_at hl 1 rfl) ?_
  have hPc := hP.sub (ws' := [(a_m, .inr (7, [.int mkd, .int mrt, .int mri, .int mca, .int mpr, .int men, .ref a_mp, .ref a_me, .int mth, .int mrq, .ref a_mq, .long mtr, .ref a_mr, .ref a_mo, .int mos, .ref a_ml, .ref a_mt, .ref a_mf]))]) [0] rfl
  have hDc := hD.sub (ws' := [(a_m, .inr (7, [.int mkd, .int mrt, .int mri, .int mca, .int mpr, .int men, .ref a_mp, .ref a_me, .int mth, .int mrq, .ref a_mq, .long mtr, .ref a_mr, .ref a_mo, .int mos, .ref a_ml, .ref a_mt, .ref a_mf]))]) [0] (by decide) rfl
  refine fr_i (wr := []) (WN := fun (u2 : Unit) => [(a_m, .inr (7, [.int mkd, .int mrt, .int mri, .int mca, .int mpr, .int men, .ref a_mp, .ref a_me, .int mth, .int mrq, .ref a_mq, .long mtr, .ref a_mr, .ref a_mo, .int mos, .ref a_ml, .ref a_mt, .ref a_mf]))]) (va_runV (As := [.int p1]) (rest := []) ⟨hx, hb, hml, hown, hts⟩ (c_X7_isEnd l dC dI kA a_m a_mp a_me a_mq a_mr a_mo a_ml a_mt a_mf s.heap.size mkd mrt mri mca mpr men mth mrq mtr mos p1 _ h) (cwV 1 hts gX7_guess_X7_isEnd rfl rfl rfl (by decide +kernel) ⟨Nat.le_of_ble_eq_true rfl, Nat.le_of_ble_eq_true rfl⟩) (prW.preV (ci := 7) (q0 := 0) hPc hDc hK hN rfl rfl) rfl rfl hl.1 rfl (lv_room (Nat.le_of_ble_eq_true rfl)) dX7_guess_2 ⟨Nat.le_of_ble_eq_true rfl, Nat.le_of_ble_eq_true rfl⟩) hP hD hS hA [0] [] rfl rfl (by decide) (by decide) [0] (by decide) (fun _ => rfl) (fun r2 u2 H locs h hP hD hS => ?_)
  have hP : va_P (dC, dI) vwCl [(a_m, .inr (7, [.int mkd, .int mrt, .int mri, .int mca, .int mpr, .int men, .ref a_mp, .ref a_me, .int mth, .int mrq, .ref a_mq, .long mtr, .ref a_mr, .ref a_mo, .int mos, .ref a_ml, .ref a_mt, .ref a_mf]))] H := hP
  have hD : va_D A [(a_m, .inr (7, [.int mkd, .int mrt, .int mri, .int mca, .int mpr, .int men, .ref a_mp, .ref a_me, .int mth, .int mrq, .ref a_mq, .long mtr, .ref a_mr, .ref a_mo, .int mos, .ref a_ml, .ref a_mt, .ref a_mf]))] := hD
  refine lv_if_eq (tgt := 24) hx hb dX7_guess_5 (by decide) (fun c5 => ?_) (fun c5 => ?_)
  · replace h := h.1 c5
    refine lv_iconst (v := (-1 : Int32)) hx hb dX7_guess_24 (by decide +kernel) ?_
    rw [hQ]
    exact rt_i () hx hb hr hlocks h hP hD hS dX7_guess_25
  · replace h := h.2 c5
    refine lv_iload_n hx hb dX7_guess_8 rfl (lv_at hl 2 rfl) ?_
    have hPc := hP.sub (ws' := []) [] rfl
    have hDc := hD.sub (ws' := []) [] (by decide) rfl
    refine fr_i (wr := [(a_m, .inr (7, [.int mkd, .int mrt, .int mri, .int mca, .int mpr, .int men, .ref a_mp, .ref a_me, .int mth, .int mrq, .ref a_mq, .long mtr, .ref a_mr, .ref a_mo, .int mos, .ref a_ml, .ref a_mt, .ref a_mf]))]) (WN := fun (u9 : Unit) => [(a_m, .inr (7, [.int mkd, .int mrt, .int mri, .int mca, .int mpr, .int men, .ref a_mp, .ref a_me, .int mth, .int mrq, .ref a_mq, .long mtr, .ref a_mr, .ref a_mo, .int mos, .ref a_ml, .ref a_mt, .ref a_mf]))]) (va_runS (As := [.int p2]) (rest := []) ⟨hx, hb, hml, hown, hts⟩ (c_X7_isTrust l dC dI kA H.size p2 _ h) (va_cwS 1 hts gX7_guess_X7_isTrust rfl rfl rfl (by decide +kernel) ⟨Nat.le_of_ble_eq_true rfl, Nat.le_of_ble_eq_true rfl⟩) (prW.preS hPc hDc hK hN) rfl rfl hl.1 rfl (lv_room (Nat.le_of_ble_eq_true rfl)) dX7_guess_9 ⟨Nat.le_of_ble_eq_true rfl, Nat.le_of_ble_eq_true rfl⟩) hP hD hS hA [] [0] rfl rfl (by decide) (by decide) [0] (by decide) (fun _ => rfl) (fun r9 u9 H locs h hP hD hS => ?_)
    have hP : va_P (dC, dI) vwCl [(a_m, .inr (7, [.int mkd, .int mrt, .int mri, .int mca, .int mpr, .int men, .ref a_mp, .ref a_me, .int mth, .int mrq, .ref a_mq, .long mtr, .ref a_mr, .ref a_mo, .int mos, .ref a_ml, .ref a_mt, .ref a_mf]))] H := hP
    have hD : va_D A [(a_m, .inr (7, [.int mkd, .int mrt, .int mri, .int mca, .int mpr, .int men, .ref a_mp, .ref a_me, .int mth, .int mrq, .ref a_mq, .long mtr, .ref a_mr, .ref a_mo, .int mos, .ref a_ml, .ref a_mt, .ref a_mf]))] := hD
    refine lv_if_eq (tgt := 24) hx hb dX7_guess_12 (by decide) (fun c12 => ?_) (fun c12 => ?_)
    · replace h := h.1 c12
      refine lv_iconst (v := (-1 : Int32)) hx hb dX7_guess_24 (by decide +kernel) ?_
      rw [hQ]
      exact rt_i () hx hb hr hlocks h hP hD hS dX7_guess_25
    · replace h := h.2 c12
      refine lv_aload_n hx hb dX7_guess_15 rfl (lv_at hl 0 rfl) ?_
      refine lv_iload_n hx hb dX7_guess_16 rfl (lv_at hl 1 rfl) ?_
      refine lv_iload_n hx hb dX7_guess_17 rfl (lv_at hl 2 rfl) ?_
      have hPc := hP.sub (ws' := [(a_m, .inr (7, [.int mkd, .int mrt, .int mri, .int mca, .int mpr, .int men, .ref a_mp, .ref a_me, .int mth, .int mrq, .ref a_mq, .long mtr, .ref a_mr, .ref a_mo, .int mos, .ref a_ml, .ref a_mt, .ref a_mf]))]) [0] rfl
      have hDc := hD.sub (ws' := [(a_m, .inr (7, [.int mkd, .int mrt, .int mri, .int mca, .int mpr, .int men, .ref a_mp, .ref a_me, .int mth, .int mrq, .ref a_mq, .long mtr, .ref a_mr, .ref a_mo, .int mos, .ref a_ml, .ref a_mt, .ref a_mf]))]) [0] (by decide) rfl
      refine fr_i (wr := []) (WN := fun (u18 : Unit) => [(a_m, .inr (7, [.int mkd, .int mrt, .int mri, .int mca, .int mpr, .int men, .ref a_mp, .ref a_me, .int mth, .int mrq, .ref a_mq, .long mtr, .ref a_mr, .ref a_mo, .int mos, .ref a_ml, .ref a_mt, .ref a_mf]))]) (va_runV (As := [.int p1, .int p2]) (rest := []) ⟨hx, hb, hml, hown, hts⟩ (c_X7_planBy l dC dI kA a_m a_mp a_me a_mq a_mr a_mo a_ml a_mt a_mf H.size mkd mrt mri mca mpr men mth mrq mtr mos p1 p2 _ h) (cwV 2 hts gX7_guess_X7_planBy rfl rfl rfl (by decide +kernel) ⟨Nat.le_of_ble_eq_true rfl, Nat.le_of_ble_eq_true rfl⟩) (prW.preV (ci := 7) (q0 := 0) hPc hDc hK hN rfl rfl) rfl rfl hl.1 rfl (lv_room (Nat.le_of_ble_eq_true rfl)) dX7_guess_18 ⟨Nat.le_of_ble_eq_true rfl, Nat.le_of_ble_eq_true rfl⟩) hP hD hS hA [0] [] rfl rfl (by decide) (by decide) [0] (by decide) (fun _ => rfl) (fun r18 u18 H locs h hP hD hS => ?_)
      have hP : va_P (dC, dI) vwCl [(a_m, .inr (7, [.int mkd, .int mrt, .int mri, .int mca, .int mpr, .int men, .ref a_mp, .ref a_me, .int mth, .int mrq, .ref a_mq, .long mtr, .ref a_mr, .ref a_mo, .int mos, .ref a_ml, .ref a_mt, .ref a_mf]))] H := hP
      have hD : va_D A [(a_m, .inr (7, [.int mkd, .int mrt, .int mri, .int mca, .int mpr, .int men, .ref a_mp, .ref a_me, .int mth, .int mrq, .ref a_mq, .long mtr, .ref a_mr, .ref a_mo, .int mos, .ref a_ml, .ref a_mt, .ref a_mf]))] := hD
      refine lv_goto (tgt := 25) hx hb dX7_guess_21 (by decide) ?_
      rw [hQ]
      exact rt_i () hx hb hr hlocks h hP hD hS dX7_guess_25

