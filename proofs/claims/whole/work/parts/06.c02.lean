/-- RentOrBuy$Shelf.movedToFront -/
def rmX5_movedToFront : Room := { frames := 2, cells := 0, slots := 0, locals := 44 }
set_option maxHeartbeats 4000000 in
set_option maxRecDepth 100000 in
theorem c_X5_movedToFront (l : Launch) (dC : Nat → ClassId) (dI : Nat → Nat → Nat) (kA : ClassId) (a_sh a_ak a_os a_le : Nat) (sz : Nat) (thg : Int32) (req : Int32) (ocn : Int32) (p1 : Int32) (p2 : Int32) (K : Int32 → Prop) (hg : g_X5_movedToFront thg req ocn p1 p2 K) : Met l yX5_movedToFront wsX5_movedToFront rmX5_movedToFront (va_Pc [.ref a_sh, .int p1, .int p2] (prW (dC, dI) kA sz [(a_sh, .inr (5, [.int thg, .int req, .ref a_ak, .int ocn, .ref a_os, .ref a_le]))])) (va_Qi (fun (r : Int32) (u : Unit) => K r) (poW (dC, dI) (va_A [(a_sh, .inr (5, [.int thg, .int req, .ref a_ak, .int ocn, .ref a_os, .ref a_le]))] sz) (fun (u : Unit) => [(a_sh, .inr (5, [.int thg, .int req, .ref a_ak, .int ocn, .ref a_os, .ref a_le]))])) (va_A [(a_sh, .inr (5, [.int thg, .int req, .ref a_ak, .int ocn, .ref a_os, .ref a_le]))] sz)) 0 0 (va_A [(a_sh, .inr (5, [.int thg, .int req, .ref a_ak, .int ocn, .ref a_os, .ref a_le]))] sz) := by
  refine Met.ofW (cc := cX5_movedToFront) (maxL := 5) (ret := (some .int)) (by decide) rfl ?_
  intro p e s m args below meth c s₁ B hml hv
  obtain ⟨hargs, hsz, hP, hK, hD0, hN⟩ := hv
  have hx := B.exec
  have hb := B.bytes
  have hr := B.returns
  have hts := atoms_spec (ws := wsX5_movedToFront) B.pre
  have hown : s.vm.findClass RX5 = some m.cls := findClass_of_methodNamed B.named
  have hlocks := B.notSynchronized
  subst hsz
  have hD := hD0.self (sz := s.heap.size)
  generalize hAe : va_A [(a_sh, .inr (5, [.int thg, .int req, .ref a_ak, .int ocn, .ref a_os, .ref a_le]))] s.heap.size = A at hD ⊢
  have hA : ∀ q : Nat, s.heap.size ≤ q → A q := fun q h => by rw [← hAe]; exact Or.inr h
  have hS : va_S A s.heap s.heap [] := va_S.rf
  obtain ⟨Q, hQ⟩ : ∃ Q : State → Prop, Q = MQ below (va_Qi (fun (r : Int32) (u : Unit) => K r) (poW (dC, dI) A (fun (u : Unit) => [(a_sh, .inr (5, [.int thg, .int req, .ref a_ak, .int ocn, .ref a_os, .ref a_le]))])) A) args s 0 0 A := ⟨_, rfl⟩
  rw [← hQ]
  have hP : va_P (dC, dI) vwCl [(a_sh, .inr (5, [.int thg, .int req, .ref a_ak, .int ocn, .ref a_os, .ref a_le]))] s.heap := hP
  refine en_ok hargs (Nat.le_of_ble_eq_true rfl) (fun ls hl => ?_)
  have hl : lv_has ls 5 [(0, .ref a_sh), (1, .int p1), (2, .int p2)] := hl
  have h := hg
  unfold g_X5_movedToFront at h
  refine lv_iload_n hx hb dX5_movedToFront_0 rfl (lv_at hl 1 rfl) ?_
  refine lv_istore_n (lv' := [(3, .int p1), (0, .ref a_sh), (1, .int p1), (2, .int p2)]) hx hb dX5_movedToFront_1 rfl hl (by decide) rfl (fun ls hl => ?_)
  refine lv_aload_n hx hb dX5_movedToFront_2 rfl (lv_at hl 1 rfl) ?_
  refine lv_iload_n hx hb dX5_movedToFront_3 rfl (lv_at hl 2 rfl) ?_
  refine lv_iload_n hx hb dX5_movedToFront_4 rfl (lv_at hl 3 rfl) ?_
  have hPc := hP.sub (ws' := [(a_sh, .inr (5, [.int thg, .int req, .ref a_ak, .int ocn, .ref a_os, .ref a_le]))]) [0] rfl
  have hDc := hD.sub (ws' := [(a_sh, .inr (5, [.int thg, .int req, .ref a_ak, .int ocn, .ref a_os, .ref a_le]))]) [0] (by decide) rfl
  refine fr_i (wr := []) (WN := fun (u5 : Unit) => [(a_sh, .inr (5, [.int thg, .int req, .ref a_ak, .int ocn, .ref a_os, .ref a_le]))]) (va_runV (As := [.int p1, .int p2]) (rest := []) ⟨hx, hb, hml, hown, hts⟩ (c_X5_placeOf l dC dI kA a_sh a_ak a_os a_le s.heap.size thg req ocn p1 p2 _ h) (cwV 2 hts gX5_movedToFront_X5_placeOf rfl rfl rfl (by decide +kernel) ⟨Nat.le_of_ble_eq_true rfl, Nat.le_of_ble_eq_true rfl⟩) (prW.preV (ci := 5) (q0 := 0) hPc hDc hK hN rfl rfl) rfl rfl hl.1 rfl (lv_room (Nat.le_of_ble_eq_true rfl)) dX5_movedToFront_5 ⟨Nat.le_of_ble_eq_true rfl, Nat.le_of_ble_eq_true rfl⟩) hP hD hS hA [0] [] rfl rfl (by decide) (by decide) [0] (by decide) (fun _ => rfl) (fun r5 u5 H locs h hP hD hS => ?_)
  have hP : va_P (dC, dI) vwCl [(a_sh, .inr (5, [.int thg, .int req, .ref a_ak, .int ocn, .ref a_os, .ref a_le]))] H := hP
  have hD : va_D A [(a_sh, .inr (5, [.int thg, .int req, .ref a_ak, .int ocn, .ref a_os, .ref a_le]))] := hD
  refine lv_istore (lv' := [(4, .int r5), (3, .int p1), (0, .ref a_sh), (1, .int p1), (2, .int p2)]) hx hb dX5_movedToFront_8 hl (by decide) rfl (fun ls hl => ?_)
  obtain ⟨J10, ⟨n10, h⟩, hz10, hs10⟩ := h
  have hL10 : ∀ (n10 : Nat) (v3_10 : Int32) (v4_10 : Int32), J10 n10 v3_10 v4_10 → ∀ (H : Heap) (locs : List Loc) (ls : Array Slot), va_P (dC, dI) vwCl [(a_sh, .inr (5, [.int thg, .int req, .ref a_ak, .int ocn, .ref a_os, .ref a_le]))] H → va_D A [(a_sh, .inr (5, [.int thg, .int req, .ref a_ak, .int ocn, .ref a_os, .ref a_le]))] → va_S A s.heap H locs → lv_has ls 5 [(3, .int v3_10), (4, .int v4_10)] → W p l e (headSpec wsX5_movedToFront rmX5_movedToFront).room s m args below meth c H locs 0 0 Q (F0 m 10 ls []) := by
    intro n10
    induction n10 with
    | zero => intro v3_10 v4_10 h; exact absurd h (hz10 v3_10 v4_10)
    | succ n10 ih10 =>
      intro v3_10 v4_10 h H locs ls hP hD hS hl
      replace h := hs10 n10 v3_10 v4_10 h
      refine lv_iload hx hb dX5_movedToFront_10 (lv_at hl 1 rfl) ?_
      refine lv_if_le (tgt := 30) hx hb dX5_movedToFront_12 (by decide) (fun c12 => ?_) (fun c12 => ?_)
      · replace h := h.1 c12
        refine lv_iload_n hx hb dX5_movedToFront_30 rfl (lv_at hl 0 rfl) ?_
        rw [hQ]
        exact rt_i () hx hb hr hlocks h hP hD hS dX5_movedToFront_31
      · replace h := h.2 c12
        refine lv_iload_n hx hb dX5_movedToFront_15 rfl (lv_at hl 0 rfl) ?_
        refine lv_iload hx hb dX5_movedToFront_16 (lv_at hl 1 rfl) ?_
        refine lv_iconst (v := (1 : Int32)) hx hb dX5_movedToFront_18 (by decide +kernel) ?_
        refine lv_isub hx hb dX5_movedToFront_19 ?_
        have hPc := hP.sub (ws' := []) [] rfl
        have hDc := hD.sub (ws' := []) [] (by decide) rfl
        refine fr_i (wr := [(a_sh, .inr (5, [.int thg, .int req, .ref a_ak, .int ocn, .ref a_os, .ref a_le]))]) (WN := fun (u20 : Unit) => [(a_sh, .inr (5, [.int thg, .int req, .ref a_ak, .int ocn, .ref a_os, .ref a_le]))]) (va_runS (As := [.int v3_10, .int (v4_10 - (1 : Int32))]) (rest := []) ⟨hx, hb, hml, hown, hts⟩ (c_X5_exchanged l dC dI kA H.size v3_10 (v4_10 - (1 : Int32)) _ h) (va_cwS 2 hts gX5_movedToFront_X5_exchanged rfl rfl rfl (by decide +kernel) ⟨Nat.le_of_ble_eq_true rfl, Nat.le_of_ble_eq_true rfl⟩) (prW.preS hPc hDc hK hN) rfl rfl hl.1 rfl (lv_room (Nat.le_of_ble_eq_true rfl)) dX5_movedToFront_20 ⟨Nat.le_of_ble_eq_true rfl, Nat.le_of_ble_eq_true rfl⟩) hP hD hS hA [] [0] rfl rfl (by decide) (by decide) [0] (by decide) (fun _ => rfl) (fun r20 u20 H locs h hP hD hS => ?_)
        have hP : va_P (dC, dI) vwCl [(a_sh, .inr (5, [.int thg, .int req, .ref a_ak, .int ocn, .ref a_os, .ref a_le]))] H := hP
        have hD : va_D A [(a_sh, .inr (5, [.int thg, .int req, .ref a_ak, .int ocn, .ref a_os, .ref a_le]))] := hD
        refine lv_istore_n (lv' := [(3, .int r20), (4, .int v4_10)]) hx hb dX5_movedToFront_23 rfl hl (by decide) rfl (fun ls hl => ?_)
        refine lv_iinc (v := (v4_10 + (-1 : Int32))) (lv' := [(4, .int (v4_10 + (-1 : Int32))), (3, .int r20)]) hx hb dX5_movedToFront_24 hl (k := 1) rfl (by rfl) (by decide) rfl (fun ls hl => ?_)
        refine lv_goto (tgt := 10) hx hb dX5_movedToFront_27 (by decide) ?_
        exact ih10 r20 (v4_10 + (-1 : Int32)) h _ _ _ hP hD hS (lv_sub hl [1, 0] rfl)
  exact hL10 n10 p1 r5 h _ _ _ hP hD hS (lv_sub hl [1, 0] rfl)

/-- RentOrBuy$Shelf.frontCost -/
def rmX5_frontCost : Room := { frames := 3, cells := 0, slots := 0, locals := 68 }
set_option maxHeartbeats 4000000 in
set_option maxRecDepth 100000 in
theorem c_X5_frontCost (l : Launch) (dC : Nat → ClassId) (dI : Nat → Nat → Nat) (kA : ClassId) (a_sh a_ak a_os a_le : Nat) (sz : Nat) (thg : Int32) (req : Int32) (ocn : Int32) (akF : Nat → Int32) (K : Int32 → Prop) (hg : g_X5_frontCost thg req ocn akF K) : Met l yX5_frontCost wsX5_frontCost rmX5_frontCost (va_Pc [.ref a_sh] (prW (dC, dI) kA sz [(a_sh, .inr (5, [.int thg, .int req, .ref a_ak, .int ocn, .ref a_os, .ref a_le])), (a_ak, .inl (kA, 16, .inl akF))])) (va_Qi (fun (r : Int32) (u : Unit) => K r) (poW (dC, dI) (va_A [(a_sh, .inr (5, [.int thg, .int req, .ref a_ak, .int ocn, .ref a_os, .ref a_le])), (a_ak, .inl (kA, 16, .inl akF))] sz) (fun (u : Unit) => [(a_sh, .inr (5, [.int thg, .int req, .ref a_ak, .int ocn, .ref a_os, .ref a_le])), (a_ak, .inl (kA, 16, .inl akF))])) (va_A [(a_sh, .inr (5, [.int thg, .int req, .ref a_ak, .int ocn, .ref a_os, .ref a_le])), (a_ak, .inl (kA, 16, .inl akF))] sz)) 0 0 (va_A [(a_sh, .inr (5, [.int thg, .int req, .ref a_ak, .int ocn, .ref a_os, .ref a_le])), (a_ak, .inl (kA, 16, .inl akF))] sz) := by
  refine Met.ofW (cc := cX5_frontCost) (maxL := 4) (ret := (some .int)) (by decide) rfl ?_
  intro p e s m args below meth c s₁ B hml hv
  obtain ⟨hargs, hsz, hP, hK, hD0, hN⟩ := hv
  have hx := B.exec
  have hb := B.bytes
  have hr := B.returns
  have hts := atoms_spec (ws := wsX5_frontCost) B.pre
  have hown : s.vm.findClass RX5 = some m.cls := findClass_of_methodNamed B.named
  have hlocks := B.notSynchronized
  subst hsz
  have hD := hD0.self (sz := s.heap.size)
  generalize hAe : va_A [(a_sh, .inr (5, [.int thg, .int req, .ref a_ak, .int ocn, .ref a_os, .ref a_le])), (a_ak, .inl (kA, 16, .inl akF))] s.heap.size = A at hD ⊢
  have hA : ∀ q : Nat, s.heap.size ≤ q → A q := fun q h => by rw [← hAe]; exact Or.inr h
  have hS : va_S A s.heap s.heap [] := va_S.rf
  obtain ⟨Q, hQ⟩ : ∃ Q : State → Prop, Q = MQ below (va_Qi (fun (r : Int32) (u : Unit) => K r) (poW (dC, dI) A (fun (u : Unit) => [(a_sh, .inr (5, [.int thg, .int req, .ref a_ak, .int ocn, .ref a_os, .ref a_le])), (a_ak, .inl (kA, 16, .inl akF))])) A) args s 0 0 A := ⟨_, rfl⟩
  rw [← hQ]
  have hP : va_P (dC, dI) vwCl [(a_sh, .inr (5, [.int thg, .int req, .ref a_ak, .int ocn, .ref a_os, .ref a_le])), (a_ak, .inl (kA, 16, .inl akF))] s.heap := hP
  refine en_ok hargs (Nat.le_of_ble_eq_true rfl) (fun ls hl => ?_)
  have hl : lv_has ls 4 [(0, .ref a_sh)] := hl
  have h := hg
  unfold g_X5_frontCost at h
  refine lv_aload_n hx hb dX5_frontCost_0 rfl (lv_at hl 0 rfl) ?_
  have hPc := hP.sub (ws' := [(a_sh, .inr (5, [.int thg, .int req, .ref a_ak, .int ocn, .ref a_os, .ref a_le]))]) [0] rfl
  have hDc := hD.sub (ws' := [(a_sh, .inr (5, [.int thg, .int req, .ref a_ak, .int ocn, .ref a_os, .ref a_le]))]) [0] (by decide) rfl
  refine fr_i (wr := [(a_ak, .inl (kA, 16, .inl akF))]) (WN := fun (u1 : Unit) => [(a_sh, .inr (5, [.int thg, .int req, .ref a_ak, .int ocn, .ref a_os, .ref a_le])), (a_ak, .inl (kA, 16, .inl akF))]) (va_runV (As := []) (rest := []) ⟨hx, hb, hml, hown, hts⟩ (c_X5_firstOrder l dC dI kA a_sh a_ak a_os a_le s.heap.size thg req ocn _ h) (cwV 0 hts gX5_frontCost_X5_firstOrder rfl rfl rfl (by decide +kernel) ⟨Nat.le_of_ble_eq_true rfl, Nat.le_of_ble_eq_true rfl⟩) (prW.preV (ci := 5) (q0 := 0) hPc hDc hK hN rfl rfl) rfl rfl hl.1 rfl (lv_room (Nat.le_of_ble_eq_true rfl)) dX5_frontCost_1 ⟨Nat.le_of_ble_eq_true rfl, Nat.le_of_ble_eq_true rfl⟩) hP hD hS hA [0] [1] rfl rfl (by decide) (by decide) [1, 0] (by decide) (fun _ => rfl) (fun r1 u1 H locs h hP hD hS => ?_)
  have hP : va_P (dC, dI) vwCl [(a_sh, .inr (5, [.int thg, .int req, .ref a_ak, .int ocn, .ref a_os, .ref a_le])), (a_ak, .inl (kA, 16, .inl akF))] H := hP
  have hD : va_D A [(a_sh, .inr (5, [.int thg, .int req, .ref a_ak, .int ocn, .ref a_os, .ref a_le])), (a_ak, .inl (kA, 16, .inl akF))] := hD
  refine lv_istore_n (lv' := [(1, .int r1), (0, .ref a_sh)]) hx hb dX5_frontCost_4 rfl hl (by decide) rfl (fun ls hl => ?_)
  refine lv_iconst (v := (0 : Int32)) hx hb dX5_frontCost_5 (by decide +kernel) ?_
  refine lv_istore_n (lv' := [(2, .int (0 : Int32)), (1, .int r1), (0, .ref a_sh)]) hx hb dX5_frontCost_6 rfl hl (by decide) rfl (fun ls hl => ?_)
  refine lv_iconst (v := (0 : Int32)) hx hb dX5_frontCost_7 (by decide +kernel) ?_
  refine lv_istore_n (lv' := [(3, .int (0 : Int32)), (2, .int (0 : Int32)), (1, .int r1), (0, .ref a_sh)]) hx hb dX5_frontCost_8 rfl hl (by decide) rfl (fun ls hl => ?_)
  obtain ⟨J9, ⟨n9, h⟩, hz9, hs9⟩ := h
  have hL9 : ∀ (n9 : Nat) (v1_9 : Int32) (v2_9 : Int32) (v3_9 : Int32), J9 n9 v1_9 v2_9 v3_9 → ∀ (H : Heap) (locs : List Loc) (ls : Array Slot), va_P (dC, dI) vwCl [(a_sh, .inr (5, [.int thg, .int req, .ref a_ak, .int ocn, .ref a_os, .ref a_le])), (a_ak, .inl (kA, 16, .inl akF))] H → va_D A [(a_sh, .inr (5, [.int thg, .int req, .ref a_ak, .int ocn, .ref a_os, .ref a_le])), (a_ak, .inl (kA, 16, .inl akF))] → va_S A s.heap H locs → lv_has ls 4 [(0, .ref a_sh), (1, .int v1_9), (2, .int v2_9), (3, .int v3_9)] → W p l e (headSpec wsX5_frontCost rmX5_frontCost).room s m args below meth c H locs 0 0 Q (F0 m 9 ls []) := by
    intro n9
    induction n9 with
    | zero => intro v1_9 v2_9 v3_9 h; exact absurd h (hz9 v1_9 v2_9 v3_9)
    | succ n9 ih9 =>
      intro v1_9 v2_9 v3_9 h H locs ls hP hD hS hl
      replace h := hs9 n9 v1_9 v2_9 v3_9 h
      refine lv_iload_n hx hb dX5_frontCost_9 rfl (lv_at hl 3 rfl) ?_
      refine lv_aload_n hx hb dX5_frontCost_10 rfl (lv_at hl 0 rfl) ?_
      refine va_get (D := (dC, dI)) (ci := 5) (v := .int req) (C := RX5) (T := TX5) (N := 6) hx hb hts (fun _ h => List.mem_cons_of_mem _ (List.mem_append_right _ h)) hown hK hP 0 rfl rfl 1 (by decide) (hts (.fieldLink RX5 25 "RentOrBuy$Shelf" "requests" "I") (List.mem_cons_of_mem _ (List.mem_append_left _ (List.mem_of_getElem? (i := 0) rfl)))) (fun _ h9 => h9) rfl dX5_frontCost_11 ?_
      refine lv_icmp_ge (tgt := 51) hx hb dX5_frontCost_14 (by decide) (fun c14 => ?_) (fun c14 => ?_)
      · replace h := h.1 c14
        refine lv_iload_n hx hb dX5_frontCost_51 rfl (lv_at hl 2 rfl) ?_
        rw [hQ]
        exact rt_i () hx hb hr hlocks h hP hD hS dX5_frontCost_52
      · replace h := h.2 c14
        refine lv_iload_n hx hb dX5_frontCost_17 rfl (lv_at hl 2 rfl) ?_
        refine lv_aload_n hx hb dX5_frontCost_18 rfl (lv_at hl 0 rfl) ?_
        refine lv_iload_n hx hb dX5_frontCost_19 rfl (lv_at hl 1 rfl) ?_
        refine lv_aload_n hx hb dX5_frontCost_20 rfl (lv_at hl 0 rfl) ?_
        refine va_get (D := (dC, dI)) (ci := 5) (v := .ref a_ak) (C := RX5) (T := TX5) (N := 6) hx hb hts (fun _ h => List.mem_cons_of_mem _ (List.mem_append_right _ h)) hown hK hP 0 rfl rfl 2 (by decide) (hts (.fieldLink RX5 9 "RentOrBuy$Shelf" "asked" "[I") (List.mem_cons_of_mem _ (List.mem_append_left _ (List.mem_of_getElem? (i := 1) rfl)))) (fun _ h9 => h9) rfl dX5_frontCost_21 ?_
        refine lv_iload_n hx hb dX5_frontCost_24 rfl (lv_at hl 3 rfl) ?_
        obtain ⟨hi25, h⟩ := h
        refine va_iald hx hb hK hP 1 0 rfl rfl hi25 dX5_frontCost_25 ?_
        have hPc := hP.sub (ws' := [(a_sh, .inr (5, [.int thg, .int req, .ref a_ak, .int ocn, .ref a_os, .ref a_le]))]) [0] rfl
        have hDc := hD.sub (ws' := [(a_sh, .inr (5, [.int thg, .int req, .ref a_ak, .int ocn, .ref a_os, .ref a_le]))]) [0] (by decide) rfl
        refine fr_i (wr := [(a_ak, .inl (kA, 16, .inl akF))]) (WN := fun (u26 : Unit) => [(a_sh, .inr (5, [.int thg, .int req, .ref a_ak, .int ocn, .ref a_os, .ref a_le])), (a_ak, .inl (kA, 16, .inl akF))]) (va_runV (As := [.int v1_9, .int (akF v3_9.toNatClampNeg)]) (rest := [.int v2_9]) ⟨hx, hb, hml, hown, hts⟩ (c_X5_placeOf l dC dI kA a_sh a_ak a_os a_le H.size thg req ocn v1_9 (akF v3_9.toNatClampNeg) _ h) (cwV 2 hts gX5_frontCost_X5_placeOf rfl rfl rfl (by decide +kernel) ⟨Nat.le_of_ble_eq_true rfl, Nat.le_of_ble_eq_true rfl⟩) (prW.preV (ci := 5) (q0 := 0) hPc hDc hK hN rfl rfl) rfl rfl hl.1 rfl (lv_room (Nat.le_of_ble_eq_true rfl)) dX5_frontCost_26 ⟨Nat.le_of_ble_eq_true rfl, Nat.le_of_ble_eq_true rfl⟩) hP hD hS hA [0] [1] rfl rfl (by decide) (by decide) [1, 0] (by decide) (fun _ => rfl) (fun r26 u26 H locs h hP hD hS => ?_)
        have hP : va_P (dC, dI) vwCl [(a_sh, .inr (5, [.int thg, .int req, .ref a_ak, .int ocn, .ref a_os, .ref a_le])), (a_ak, .inl (kA, 16, .inl akF))] H := hP
        have hD : va_D A [(a_sh, .inr (5, [.int thg, .int req, .ref a_ak, .int ocn, .ref a_os, .ref a_le])), (a_ak, .inl (kA, 16, .inl akF))] := hD
        refine lv_iconst (v := (1 : Int32)) hx hb dX5_frontCost_29 (by decide +kernel) ?_
        refine lv_iadd hx hb dX5_frontCost_30 ?_
        refine lv_iadd hx hb dX5_frontCost_31 ?_
        refine lv_istore_n (lv' := [(2, .int (v2_9 + (r26 + (1 : Int32)))), (0, .ref a_sh), (1, .int v1_9), (3, .int v3_9)]) hx hb dX5_frontCost_32 rfl hl (by decide) rfl (fun ls hl => ?_)
        refine lv_aload_n hx hb dX5_frontCost_33 rfl (lv_at hl 1 rfl) ?_
        refine lv_iload_n hx hb dX5_frontCost_34 rfl (lv_at hl 2 rfl) ?_
        refine lv_aload_n hx hb dX5_frontCost_35 rfl (lv_at hl 1 rfl) ?_
        refine va_get (D := (dC, dI)) (ci := 5) (v := .ref a_ak) (C := RX5) (T := TX5) (N := 6) hx hb hts (fun _ h => List.mem_cons_of_mem _ (List.mem_append_right _ h)) hown hK hP 0 rfl rfl 2 (by decide) (hts (.fieldLink RX5 9 "RentOrBuy$Shelf" "asked" "[I") (List.mem_cons_of_mem _ (List.mem_append_left _ (List.mem_of_getElem? (i := 1) rfl)))) (fun _ h9 => h9) rfl dX5_frontCost_36 ?_
        refine lv_iload_n hx hb dX5_frontCost_39 rfl (lv_at hl 3 rfl) ?_
        obtain ⟨hi40, h⟩ := h
        refine va_iald hx hb hK hP 1 0 rfl rfl hi40 dX5_frontCost_40 ?_
        have hPc := hP.sub (ws' := [(a_sh, .inr (5, [.int thg, .int req, .ref a_ak, .int ocn, .ref a_os, .ref a_le]))]) [0] rfl
        have hDc := hD.sub (ws' := [(a_sh, .inr (5, [.int thg, .int req, .ref a_ak, .int ocn, .ref a_os, .ref a_le]))]) [0] (by decide) rfl
        refine fr_i (wr := [(a_ak, .inl (kA, 16, .inl akF))]) (WN := fun (u41 : Unit) => [(a_sh, .inr (5, [.int thg, .int req, .ref a_ak, .int ocn, .ref a_os, .ref a_le])), (a_ak, .inl (kA, 16, .inl akF))]) (va_runV (As := [.int v1_9, .int (akF v3_9.toNatClampNeg)]) (rest := []) ⟨hx, hb, hml, hown, hts⟩ (c_X5_movedToFront l dC dI kA a_sh a_ak a_os a_le H.size thg req ocn v1_9 (akF v3_9.toNatClampNeg) _ h) (cwV 2 hts gX5_frontCost_X5_movedToFront rfl rfl rfl (by decide +kernel) ⟨Nat.le_of_ble_eq_true rfl, Nat.le_of_ble_eq_true rfl⟩) (prW.preV (ci := 5) (q0 := 0) hPc hDc hK hN rfl rfl) rfl rfl hl.1 rfl (lv_room (Nat.le_of_ble_eq_true rfl)) dX5_frontCost_41 ⟨Nat.le_of_ble_eq_true rfl, Nat.le_of_ble_eq_true rfl⟩) hP hD hS hA [0] [1] rfl rfl (by decide) (by decide) [1, 0] (by decide) (fun _ => rfl) (fun r41 u41 H locs h hP hD hS => ?_)
        have hP : va_P (dC, dI) vwCl [(a_sh, .inr (5, [.int thg, .int req, .ref a_ak, .int ocn, .ref a_os, .ref a_le])), (a_ak, .inl (kA, 16, .inl akF))] H := hP
        have hD : va_D A [(a_sh, .inr (5, [.int thg, .int req, .ref a_ak, .int ocn, .ref a_os, .ref a_le])), (a_ak, .inl (kA, 16, .inl akF))] := hD
        refine lv_istore_n (lv' := [(1, .int r41), (2, .int (v2_9 + (r26 + (1 : Int32)))), (0, .ref a_sh), (3, .int v3_9)]) hx hb dX5_frontCost_44 rfl hl (by decide) rfl (fun ls hl => ?_)
        refine lv_iinc (v := (v3_9 + (1 : Int32))) (lv' := [(3, .int (v3_9 + (1 : Int32))), (1, .int r41), (2, .int (v2_9 + (r26 + (1 : Int32)))), (0, .ref a_sh)]) hx hb dX5_frontCost_45 hl (k := 3) rfl (by rfl) (by decide) rfl (fun ls hl => ?_)
        refine lv_goto (tgt := 9) hx hb dX5_frontCost_48 (by decide) ?_
        exact ih9 r41 (v2_9 + (r26 + (1 : Int32))) (v3_9 + (1 : Int32)) h _ _ _ hP hD hS (lv_sub hl [3, 1, 2, 0] rfl)
  exact hL9 n9 r1 (0 : Int32) (0 : Int32) h _ _ _ hP hD hS (lv_sub hl [3, 2, 1, 0] rfl)

/-- RentOrBuy$Shelf.frontOrder -/
def rmX5_frontOrder : Room := { frames := 3, cells := 0, slots := 0, locals := 68 }
set_option maxHeartbeats 4000000 in
set_option maxRecDepth 100000 in
theorem c_X5_frontOrder (l : Launch) (dC : Nat → ClassId) (dI : Nat → Nat → Nat) (kA : ClassId) (a_sh a_ak a_os a_le : Nat) (sz : Nat) (thg : Int32) (req : Int32) (ocn : Int32) (akF : Nat → Int32) (K : Int32 → Prop) (hg : g_X5_frontOrder thg req ocn akF K) : Met l yX5_frontOrder wsX5_frontOrder rmX5_frontOrder (va_Pc [.ref a_sh] (prW (dC, dI) kA sz [(a_sh, .inr (5, [.int thg, .int req, .ref a_ak, .int ocn, .ref a_os, .ref a_le])), (a_ak, .inl (kA, 16, .inl akF))])) (va_Qi (fun (r : Int32) (u : Unit) => K r) (poW (dC, dI) (va_A [(a_sh, .inr (5, [.int thg, .int req, .ref a_ak, .int ocn, .ref a_os, .ref a_le])), (a_ak, .inl (kA, 16, .inl akF))] sz) (fun (u : Unit) => [(a_sh, .inr (5, [.int thg, .int req, .ref a_ak, .int ocn, .ref a_os, .ref a_le])), (a_ak, .inl (kA, 16, .inl akF))])) (va_A [(a_sh, .inr (5, [.int thg, .int req, .ref a_ak, .int ocn, .ref a_os, .ref a_le])), (a_ak, .inl (kA, 16, .inl akF))] sz)) 0 0 (va_A [(a_sh, .inr (5, [.int thg, .int req, .ref a_ak, .int ocn, .ref a_os, .ref a_le])), (a_ak, .inl (kA, 16, .inl akF))] sz) := by
  refine Met.ofW (cc := cX5_frontOrder) (maxL := 3) (ret := (some .int)) (by decide) rfl ?_
  intro p e s m args below meth c s₁ B hml hv
  obtain ⟨hargs, hsz, hP, hK, hD0, hN⟩ := hv
  have hx := B.exec
  have hb := B.bytes
  have hr := B.returns
  have hts := atoms_spec (ws := wsX5_frontOrder) B.pre
  have hown : s.vm.findClass RX5 = some m.cls := findClass_of_methodNamed B.named
  have hlocks := B.notSynchronized
  subst hsz
  have hD := hD0.self (sz := s.heap.size)
  generalize hAe : va_A [(a_sh, .inr (5, [.int thg, .int req, .ref a_ak, .int ocn, .ref a_os, .ref a_le])), (a_ak, .inl (kA, 16, .inl akF))] s.heap.size = A at hD ⊢
  have hA : ∀ q : Nat, s.heap.size ≤ q → A q := fun q h => by rw [← hAe]; exact Or.inr h
  have hS : va_S A s.heap s.heap [] := va_S.rf
  obtain ⟨Q, hQ⟩ : ∃ Q : State → Prop, Q = MQ below (va_Qi (fun (r : Int32) (u : Unit) => K r) (poW (dC, dI) A (fun (u : Unit) => [(a_sh, .inr (5, [.int thg, .int req, .ref a_ak, .int ocn, .ref a_os, .ref a_le])), (a_ak, .inl (kA, 16, .inl akF))])) A) args s 0 0 A := ⟨_, rfl⟩
  rw [← hQ]
  have hP : va_P (dC, dI) vwCl [(a_sh, .inr (5, [.int thg, .int req, .ref a_ak, .int ocn, .ref a_os, .ref a_le])), (a_ak, .inl (kA, 16, .inl akF))] s.heap := hP
  refine en_ok hargs (Nat.le_of_ble_eq_true rfl) (fun ls hl => ?_)
  have hl : lv_has ls 3 [(0, .ref a_sh)] := hl
  have h := hg
  unfold g_X5_frontOrder at h
  refine lv_aload_n hx hb dX5_frontOrder_0 rfl (lv_at hl 0 rfl) ?_
  have hPc := hP.sub (ws' := [(a_sh, .inr (5, [.int thg, .int req, .ref a_ak, .int ocn, .ref a_os, .ref a_le]))]) [0] rfl
  have hDc := hD.sub (ws' := [(a_sh, .inr (5, [.int thg, .int req, .ref a_ak, .int ocn, .ref a_os, .ref a_le]))]) [0] (by decide) rfl
  refine fr_i (wr := [(a_ak, .inl (kA, 16, .inl akF))]) (WN := fun (u1 : Unit) => [(a_sh, .inr (5, [.int thg, .int req, .ref a_ak, .int ocn, .ref a_os, .ref a_le])), (a_ak, .inl (kA, 16, .inl akF))]) (va_runV (As := []) (rest := []) ⟨hx, hb, hml, hown, hts⟩ (c_X5_firstOrder l dC dI kA a_sh a_ak a_os a_le s.heap.size thg req ocn _ h) (cwV 0 hts gX5_frontOrder_X5_firstOrder rfl rfl rfl (by decide +kernel) ⟨Nat.le_of_ble_eq_true rfl, Nat.le_of_ble_eq_true rfl⟩) (prW.preV (ci := 5) (q0 := 0) hPc hDc hK hN rfl rfl) rfl rfl hl.1 rfl (lv_room (Nat.le_of_ble_eq_true rfl)) dX5_frontOrder_1 ⟨Nat.le_of_ble_eq_true rfl, Nat.le_of_ble_eq_true rfl⟩) hP hD hS hA [0] [1] rfl rfl (by decide) (by decide) [1, 0] (by decide) (fun _ => rfl) (fun r1 u1 H locs h hP hD hS => ?_)
  have hP : va_P (dC, dI) vwCl [(a_sh, .inr (5, [.int thg, .int req, .ref a_ak, .int ocn, .ref a_os, .ref a_le])), (a_ak, .inl (kA, 16, .inl akF))] H := hP
  have hD : va_D A [(a_sh, .inr (5, [.int thg, .int req, .ref a_ak, .int ocn, .ref a_os, .ref a_le])), (a_ak, .inl (kA, 16, .inl akF))] := hD
  refine lv_istore_n (lv' := [(1, .int r1), (0, .ref a_sh)]) hx hb dX5_frontOrder_4 rfl hl (by decide) rfl (fun ls hl => ?_)
  refine lv_iconst (v := (0 : Int32)) hx hb dX5_frontOrder_5 (by decide +kernel) ?_
  refine lv_istore_n (lv' := [(2, .int (0 : Int32)), (1, .int r1), (0, .ref a_sh)]) hx hb dX5_frontOrder_6 rfl hl (by decide) rfl (fun ls hl => ?_)
  obtain ⟨J7, ⟨n7, h⟩, hz7, hs7⟩ := h
  have hL7 : ∀ (n7 : Nat) (v1_7 : Int32) (v2_7 : Int32), J7 n7 v1_7 v2_7 → ∀ (H : Heap) (locs : List Loc) (ls : Array Slot), va_P (dC, dI) vwCl [(a_sh, .inr (5, [.int thg, .int req, .ref a_ak, .int ocn, .ref a_os, .ref a_le])), (a_ak, .inl (kA, 16, .inl akF))] H → va_D A [(a_sh, .inr (5, [.int thg, .int req, .ref a_ak, .int ocn, .ref a_os, .ref a_le])), (a_ak, .inl (kA, 16, .inl akF))] → va_S A s.heap H locs → lv_has ls 3 [(0, .ref a_sh), (1, .int v1_7), (2, .int v2_7)] → W p l e (headSpec wsX5_frontOrder rmX5_frontOrder).room s m args below meth c H locs 0 0 Q (F0 m 7 ls []) := by
    intro n7
    induction n7 with
    | zero => intro v1_7 v2_7 h; exact absurd h (hz7 v1_7 v2_7)
    | succ n7 ih7 =>
      intro v1_7 v2_7 h H locs ls hP hD hS hl
      replace h := hs7 n7 v1_7 v2_7 h
      refine lv_iload_n hx hb dX5_frontOrder_7 rfl (lv_at hl 2 rfl) ?_
      refine lv_aload_n hx hb dX5_frontOrder_8 rfl (lv_at hl 0 rfl) ?_
      refine va_get (D := (dC, dI)) (ci := 5) (v := .int req) (C := RX5) (T := TX5) (N := 6) hx hb hts (fun _ h => List.mem_cons_of_mem _ (List.mem_append_right _ h)) hown hK hP 0 rfl rfl 1 (by decide) (hts (.fieldLink RX5 25 "RentOrBuy$Shelf" "requests" "I") (List.mem_cons_of_mem _ (List.mem_append_left _ (List.mem_of_getElem? (i := 0) rfl)))) (fun _ h9 => h9) rfl dX5_frontOrder_9 ?_
      refine lv_icmp_ge (tgt := 33) hx hb dX5_frontOrder_12 (by decide) (fun c12 => ?_) (fun c12 => ?_)
      · replace h := h.1 c12
        refine lv_iload_n hx hb dX5_frontOrder_33 rfl (lv_at hl 1 rfl) ?_
        rw [hQ]
        exact rt_i () hx hb hr hlocks h hP hD hS dX5_frontOrder_34
      · replace h := h.2 c12
        refine lv_aload_n hx hb dX5_frontOrder_15 rfl (lv_at hl 0 rfl) ?_
        refine lv_iload_n hx hb dX5_frontOrder_16 rfl (lv_at hl 1 rfl) ?_
        refine lv_aload_n hx hb dX5_frontOrder_17 rfl (lv_at hl 0 rfl) ?_
        refine va_get (D := (dC, dI)) (ci := 5) (v := .ref a_ak) (C := RX5) (T := TX5) (N := 6) hx hb hts (fun _ h => List.mem_cons_of_mem _ (List.mem_append_right _ h)) hown hK hP 0 rfl rfl 2 (by decide) (hts (.fieldLink RX5 9 "RentOrBuy$Shelf" "asked" "[I") (List.mem_cons_of_mem _ (List.mem_append_left _ (List.mem_of_getElem? (i := 1) rfl)))) (fun _ h9 => h9) rfl dX5_frontOrder_18 ?_
        refine lv_iload_n hx hb dX5_frontOrder_21 rfl (lv_at hl 2 rfl) ?_
        obtain ⟨hi22, h⟩ := h
        refine va_iald hx hb hK hP 1 0 rfl rfl hi22 dX5_frontOrder_22 ?_
        have hPc := hP.sub (ws' := [(a_sh, .inr (5, [.int thg, .int req, .ref a_ak, .int ocn, .ref a_os, .ref a_le]))]) [0] rfl
        have hDc := hD.sub (ws' := [(a_sh, .inr (5, [.int thg, .int req, .ref a_ak, .int ocn, .ref a_os, .ref a_le]))]) [0] (by decide) rfl
        refine fr_i (wr := [(a_ak, .inl (kA, 16, .inl akF))]) (WN := fun (u23 : Unit) => [(a_sh, .inr (5, [.int thg, .int req, .ref a_ak, .int ocn, .ref a_os, .ref a_le])), (a_ak, .inl (kA, 16, .inl akF))]) (va_runV (As := [.int v1_7, .int (akF v2_7.toNatClampNeg)]) (rest := []) ⟨hx, hb, hml, hown, hts⟩ (c_X5_movedToFront l dC dI kA a_sh a_ak a_os a_le H.size thg req ocn v1_7 (akF v2_7.toNatClampNeg) _ h) (cwV 2 hts gX5_frontOrder_X5_movedToFront rfl rfl rfl (by decide +kernel) ⟨Nat.le_of_ble_eq_true rfl, Nat.le_of_ble_eq_true rfl⟩) (prW.preV (ci := 5) (q0 := 0) hPc hDc hK hN rfl rfl) rfl rfl hl.1 rfl (lv_room (Nat.le_of_ble_eq_true rfl)) dX5_frontOrder_23 ⟨Nat.le_of_ble_eq_true rfl, Nat.le_of_ble_eq_true rfl⟩) hP hD hS hA [0] [1] rfl rfl (by decide) (by decide) [1, 0] (by decide) (fun _ => rfl) (fun r23 u23 H locs h hP hD hS => ?_)
        have hP : va_P (dC, dI) vwCl [(a_sh, .inr (5, [.int thg, .int req, .ref a_ak, .int ocn, .ref a_os, .ref a_le])), (a_ak, .inl (kA, 16, .inl akF))] H := hP
        have hD : va_D A [(a_sh, .inr (5, [.int thg, .int req, .ref a_ak, .int ocn, .ref a_os, .ref a_le])), (a_ak, .inl (kA, 16, .inl akF))] := hD
        refine lv_istore_n (lv' := [(1, .int r23), (0, .ref a_sh), (2, .int v2_7)]) hx hb dX5_frontOrder_26 rfl hl (by decide) rfl (fun ls hl => ?_)
        refine lv_iinc (v := (v2_7 + (1 : Int32))) (lv' := [(2, .int (v2_7 + (1 : Int32))), (1, .int r23), (0, .ref a_sh)]) hx hb dX5_frontOrder_27 hl (k := 2) rfl (by rfl) (by decide) rfl (fun ls hl => ?_)
        refine lv_goto (tgt := 7) hx hb dX5_frontOrder_30 (by decide) ?_
        exact ih7 r23 (v2_7 + (1 : Int32)) h _ _ _ hP hD hS (lv_sub hl [2, 1, 0] rfl)
  exact hL7 n7 r1 (0 : Int32) h _ _ _ hP hD hS (lv_sub hl [2, 1, 0] rfl)

/-- RentOrBuy$Shelf.<init> -/
def rmX5_init : Room := { frames := 3, cells := 3, slots := 296, locals := 65 }
set_option maxHeartbeats 4000000 in
set_option maxRecDepth 100000 in
theorem c_X5_init (l : Launch) (dC : Nat → ClassId) (dI : Nat → Nat → Nat) (kA : ClassId) (a_sh : Nat) (sz : Nat)  (K : Int32 → Int32 → Int32 → (Nat → Int32) → (Nat → Int32) → (Nat → Int32) → Prop) (hg : g_X5_init  K) : Met l yX5_init wsX5_init rmX5_init (va_Pc [.ref a_sh] (prW (dC, dI) kA sz [(a_sh, .inr (5, [.int 0, .int 0, .null, .int 0, .null, .null]))])) (va_Qv (fun (u : Int32 × Int32 × Int32 × (Nat → Int32) × (Nat → Int32) × (Nat → Int32) × Nat × Nat × Nat) => K u.1 u.2.1 u.2.2.1 u.2.2.2.1 u.2.2.2.2.1 u.2.2.2.2.2.1) (poW (dC, dI) (va_A [(a_sh, .inr (5, [.int 0, .int 0, .null, .int 0, .null, .null]))] sz) (fun (u : Int32 × Int32 × Int32 × (Nat → Int32) × (Nat → Int32) × (Nat → Int32) × Nat × Nat × Nat) => [(a_sh, .inr (5, [.int u.1, .int u.2.1, .ref u.2.2.2.2.2.2.1, .int u.2.2.1, .ref u.2.2.2.2.2.2.2.1, .ref u.2.2.2.2.2.2.2.2])), (u.2.2.2.2.2.2.1, .inl (kA, 16, .inl u.2.2.2.1)), (u.2.2.2.2.2.2.2.1, .inl (kA, 24, .inl u.2.2.2.2.1)), (u.2.2.2.2.2.2.2.2, .inl (kA, 256, .inl u.2.2.2.2.2.1))])) (va_A [(a_sh, .inr (5, [.int 0, .int 0, .null, .int 0, .null, .null]))] sz)) 3 296 (va_A [(a_sh, .inr (5, [.int 0, .int 0, .null, .int 0, .null, .null]))] sz) := by
  refine Met.ofW (cc := cX5_init) (maxL := 1) (ret := none) (by decide) rfl ?_
  intro p e s m args below meth c s₁ B hml hv
  obtain ⟨hargs, hsz, hP, hK, hD0, hN⟩ := hv
  have hx := B.exec
  have hb := B.bytes
  have hr := B.returns
  have hts := atoms_spec (ws := wsX5_init) B.pre
  have hown : s.vm.findClass RX5 = some m.cls := findClass_of_methodNamed B.named
  have hlocks := B.notSynchronized
  have hin : meth.name = "<init>" := (name_of_methodNamed B.named B.method).1
  subst hsz
  have hD := hD0.self (sz := s.heap.size)
  generalize hAe : va_A [(a_sh, .inr (5, [.int 0, .int 0, .null, .int 0, .null, .null]))] s.heap.size = A at hD ⊢
  have hA : ∀ q : Nat, s.heap.size ≤ q → A q := fun q h => by rw [← hAe]; exact Or.inr h
  have hS : va_S A s.heap s.heap [] := va_S.rf
  obtain ⟨Q, hQ⟩ : ∃ Q : State → Prop, Q = MQ below (va_Qv (fun (u : Int32 × Int32 × Int32 × (Nat → Int32) × (Nat → Int32) × (Nat → Int32) × Nat × Nat × Nat) => K u.1 u.2.1 u.2.2.1 u.2.2.2.1 u.2.2.2.2.1 u.2.2.2.2.2.1) (poW (dC, dI) A (fun (u : Int32 × Int32 × Int32 × (Nat → Int32) × (Nat → Int32) × (Nat → Int32) × Nat × Nat × Nat) => [(a_sh, .inr (5, [.int u.1, .int u.2.1, .ref u.2.2.2.2.2.2.1, .int u.2.2.1, .ref u.2.2.2.2.2.2.2.1, .ref u.2.2.2.2.2.2.2.2])), (u.2.2.2.2.2.2.1, .inl (kA, 16, .inl u.2.2.2.1)), (u.2.2.2.2.2.2.2.1, .inl (kA, 24, .inl u.2.2.2.2.1)), (u.2.2.2.2.2.2.2.2, .inl (kA, 256, .inl u.2.2.2.2.2.1))])) A) args s 3 296 A := ⟨_, rfl⟩
  rw [← hQ]
  have hP : va_P (dC, dI) vwCl [(a_sh, .inr (5, [.int 0, .int 0, .null, .int 0, .null, .null]))] s.heap := hP
  refine en_ok hargs (Nat.le_of_ble_eq_true rfl) (fun ls hl => ?_)
  have hl : lv_has ls 1 [(0, .ref a_sh)] := hl
  have h := hg
  unfold g_X5_init at h
  refine lv_aload_n hx hb dX5_init_0 rfl (lv_at hl 0 rfl) ?_
  refine W.objInit hx hb hown (hts (.methodLink RX5 3 objectInit) (List.mem_cons_of_mem _ (List.mem_append_left _ (List.mem_of_getElem? (i := 0) rfl)))) (hts (.instanceMethod objectInit) (List.mem_cons_of_mem _ (List.mem_append_left _ (List.mem_of_getElem? (i := 1) rfl)))) (hts (.code objectInit ⟨#[0xb1]⟩ 1 none) (List.mem_cons_of_mem _ (List.mem_append_left _ (List.mem_of_getElem? (i := 2) rfl)))) rfl (by rw [hml]; exact hl.1) rfl dX5_init_1 (Nat.le_of_ble_eq_true rfl) (Nat.le_of_ble_eq_true rfl) ?_
  refine W.eq (g2 := F0 m 4 ls []) rfl ?_
  refine lv_aload_n hx hb dX5_init_4 rfl (lv_at hl 0 rfl) ?_
  refine lv_bipush (v := (16 : Int32)) hx hb dX5_init_5 (by decide +kernel) ?_
  refine na_i (N' := 16) hx hb (hts (.arrayClass .int) (List.mem_cons_of_mem _ (List.mem_append_left _ (List.mem_of_getElem? (i := 3) rfl)))) hK hP hD hS hA (by decide) (by decide +kernel) (by decide) (Nat.le_of_ble_eq_true rfl) (Nat.le_of_ble_eq_true rfl) dX5_init_7 (fun q7 H hP hD hS => ?_)
  have hP : va_P (dC, dI) vwCl [(a_sh, .inr (5, [.int 0, .int 0, .null, .int 0, .null, .null])), (q7, .inl (kA, 16, .inl (fun _ => (0 : Int32))))] H := hP
  have hD : va_D A [(a_sh, .inr (5, [.int 0, .int 0, .null, .int 0, .null, .null])), (q7, .inl (kA, 16, .inl (fun _ => (0 : Int32))))] := hD
  refine va_putF (D := (dC, dI)) (ci := 5) (v := .ref q7) (ty := (.array .int)) (C := RX5) (T := TX5) (N := 6) hx hb hts (fun _ h => List.mem_cons_of_mem _ (List.mem_append_right _ h)) tyX5 tyX5_ok nmX5 hown hK hP hD hS 0 rfl rfl 2 (by decide) (hts (.fieldLink RX5 9 "RentOrBuy$Shelf" "asked" "[I") (List.mem_cons_of_mem _ (List.mem_append_left _ (List.mem_of_getElem? (i := 4) rfl)))) (fun _ h9 => h9) rfl hin rfl (by decide +kernel) rfl rfl (Nat.le_of_ble_eq_true rfl) dX5_init_9 (fun H locs hP hD hS => ?_)
  have hP : va_P (dC, dI) vwCl [(a_sh, .inr (5, [.int 0, .int 0, .ref q7, .int 0, .null, .null])), (q7, .inl (kA, 16, .inl (fun _ => (0 : Int32))))] H := hP
  have hD : va_D A [(a_sh, .inr (5, [.int 0, .int 0, .ref q7, .int 0, .null, .null])), (q7, .inl (kA, 16, .inl (fun _ => (0 : Int32))))] := hD
  refine lv_aload_n hx hb dX5_init_12 rfl (lv_at hl 0 rfl) ?_
  refine lv_bipush (v := (24 : Int32)) hx hb dX5_init_13 (by decide +kernel) ?_
  refine na_i (N' := 24) hx hb (hts (.arrayClass .int) (List.mem_cons_of_mem _ (List.mem_append_left _ (List.mem_of_getElem? (i := 3) rfl)))) hK hP hD hS hA (by decide) (by decide +kernel) (by decide) (Nat.le_of_ble_eq_true rfl) (Nat.le_of_ble_eq_true rfl) dX5_init_15 (fun q15 H hP hD hS => ?_)
  have hP : va_P (dC, dI) vwCl [(a_sh, .inr (5, [.int 0, .int 0, .ref q7, .int 0, .null, .null])), (q7, .inl (kA, 16, .inl (fun _ => (0 : Int32)))), (q15, .inl (kA, 24, .inl (fun _ => (0 : Int32))))] H := hP
  have hD : va_D A [(a_sh, .inr (5, [.int 0, .int 0, .ref q7, .int 0, .null, .null])), (q7, .inl (kA, 16, .inl (fun _ => (0 : Int32)))), (q15, .inl (kA, 24, .inl (fun _ => (0 : Int32))))] := hD
  refine va_putF (D := (dC, dI)) (ci := 5) (v := .ref q15) (ty := (.array .int)) (C := RX5) (T := TX5) (N := 6) hx hb hts (fun _ h => List.mem_cons_of_mem _ (List.mem_append_right _ h)) tyX5 tyX5_ok nmX5 hown hK hP hD hS 0 rfl rfl 4 (by decide) (hts (.fieldLink RX5 15 "RentOrBuy$Shelf" "orders" "[I") (List.mem_cons_of_mem _ (List.mem_append_left _ (List.mem_of_getElem? (i := 5) rfl)))) (fun _ h9 => h9) rfl hin rfl (by decide +kernel) rfl rfl (Nat.le_of_ble_eq_true rfl) dX5_init_17 (fun H locs hP hD hS => ?_)
  have hP : va_P (dC, dI) vwCl [(a_sh, .inr (5, [.int 0, .int 0, .ref q7, .int 0, .ref q15, .null])), (q7, .inl (kA, 16, .inl (fun _ => (0 : Int32)))), (q15, .inl (kA, 24, .inl (fun _ => (0 : Int32))))] H := hP
  have hD : va_D A [(a_sh, .inr (5, [.int 0, .int 0, .ref q7, .int 0, .ref q15, .null])), (q7, .inl (kA, 16, .inl (fun _ => (0 : Int32)))), (q15, .inl (kA, 24, .inl (fun _ => (0 : Int32))))] := hD
  refine lv_aload_n hx hb dX5_init_20 rfl (lv_at hl 0 rfl) ?_
  refine lv_sipush (v := (256 : Int32)) hx hb dX5_init_21 (by decide +kernel) ?_
  refine na_i (N' := 256) hx hb (hts (.arrayClass .int) (List.mem_cons_of_mem _ (List.mem_append_left _ (List.mem_of_getElem? (i := 3) rfl)))) hK hP hD hS hA (by decide) (by decide +kernel) (by decide) (Nat.le_of_ble_eq_true rfl) (Nat.le_of_ble_eq_true rfl) dX5_init_24 (fun q24 H hP hD hS => ?_)
  have hP : va_P (dC, dI) vwCl [(a_sh, .inr (5, [.int 0, .int 0, .ref q7, .int 0, .ref q15, .null])), (q7, .inl (kA, 16, .inl (fun _ => (0 : Int32)))), (q15, .inl (kA, 24, .inl (fun _ => (0 : Int32)))), (q24, .inl (kA, 256, .inl (fun _ => (0 : Int32))))] H := hP
  have hD : va_D A [(a_sh, .inr (5, [.int 0, .int 0, .ref q7, .int 0, .ref q15, .null])), (q7, .inl (kA, 16, .inl (fun _ => (0 : Int32)))), (q15, .inl (kA, 24, .inl (fun _ => (0 : Int32)))), (q24, .inl (kA, 256, .inl (fun _ => (0 : Int32))))] := hD
  refine va_putF (D := (dC, dI)) (ci := 5) (v := .ref q24) (ty := (.array .int)) (C := RX5) (T := TX5) (N := 6) hx hb hts (fun _ h => List.mem_cons_of_mem _ (List.mem_append_right _ h)) tyX5 tyX5_ok nmX5 hown hK hP hD hS 0 rfl rfl 5 (by decide) (hts (.fieldLink RX5 18 "RentOrBuy$Shelf" "least" "[I") (List.mem_cons_of_mem _ (List.mem_append_left _ (List.mem_of_getElem? (i := 6) rfl)))) (fun _ h9 => h9) rfl hin rfl (by decide +kernel) rfl rfl (Nat.le_of_ble_eq_true rfl) dX5_init_26 (fun H locs hP hD hS => ?_)
  have hP : va_P (dC, dI) vwCl [(a_sh, .inr (5, [.int 0, .int 0, .ref q7, .int 0, .ref q15, .ref q24])), (q7, .inl (kA, 16, .inl (fun _ => (0 : Int32)))), (q15, .inl (kA, 24, .inl (fun _ => (0 : Int32)))), (q24, .inl (kA, 256, .inl (fun _ => (0 : Int32))))] H := hP
  have hD : va_D A [(a_sh, .inr (5, [.int 0, .int 0, .ref q7, .int 0, .ref q15, .ref q24])), (q7, .inl (kA, 16, .inl (fun _ => (0 : Int32)))), (q15, .inl (kA, 24, .inl (fun _ => (0 : Int32)))), (q24, .inl (kA, 256, .inl (fun _ => (0 : Int32))))] := hD
  refine lv_aload_n hx hb dX5_init_29 rfl (lv_at hl 0 rfl) ?_
  refine lv_iconst (v := (3 : Int32)) hx hb dX5_init_30 (by decide +kernel) ?_
  refine va_put (D := (dC, dI)) (ci := 5) (v := .int (3 : Int32)) (ty := .int) (C := RX5) (T := TX5) (N := 6) hx hb hts (fun _ h => List.mem_cons_of_mem _ (List.mem_append_right _ h)) tyX5 tyX5_ok nmX5 hown hK hP hD hS 0 rfl rfl 0 (by decide) (hts (.fieldLink RX5 21 "RentOrBuy$Shelf" "things" "I") (List.mem_cons_of_mem _ (List.mem_append_left _ (List.mem_of_getElem? (i := 7) rfl)))) (fun _ h9 => h9) rfl (by decide +kernel) rfl rfl (Nat.le_of_ble_eq_true rfl) dX5_init_31 (fun H locs hP hD hS => ?_)
  have hP : va_P (dC, dI) vwCl [(a_sh, .inr (5, [.int (3 : Int32), .int 0, .ref q7, .int 0, .ref q15, .ref q24])), (q7, .inl (kA, 16, .inl (fun _ => (0 : Int32)))), (q15, .inl (kA, 24, .inl (fun _ => (0 : Int32)))), (q24, .inl (kA, 256, .inl (fun _ => (0 : Int32))))] H := hP
  have hD : va_D A [(a_sh, .inr (5, [.int (3 : Int32), .int 0, .ref q7, .int 0, .ref q15, .ref q24])), (q7, .inl (kA, 16, .inl (fun _ => (0 : Int32)))), (q15, .inl (kA, 24, .inl (fun _ => (0 : Int32)))), (q24, .inl (kA, 256, .inl (fun _ => (0 : Int32))))] := hD
  refine lv_aload_n hx hb dX5_init_34 rfl (lv_at hl 0 rfl) ?_
  refine lv_iconst (v := (0 : Int32)) hx hb dX5_init_35 (by decide +kernel) ?_
  refine va_put (D := (dC, dI)) (ci := 5) (v := .int (0 : Int32)) (ty := .int) (C := RX5) (T := TX5) (N := 6) hx hb hts (fun _ h => List.mem_cons_of_mem _ (List.mem_append_right _ h)) tyX5 tyX5_ok nmX5 hown hK hP hD hS 0 rfl rfl 1 (by decide) (hts (.fieldLink RX5 25 "RentOrBuy$Shelf" "requests" "I") (List.mem_cons_of_mem _ (List.mem_append_left _ (List.mem_of_getElem? (i := 8) rfl)))) (fun _ h9 => h9) rfl (by decide +kernel) rfl rfl (Nat.le_of_ble_eq_true rfl) dX5_init_36 (fun H locs hP hD hS => ?_)
  have hP : va_P (dC, dI) vwCl [(a_sh, .inr (5, [.int (3 : Int32), .int (0 : Int32), .ref q7, .int 0, .ref q15, .ref q24])), (q7, .inl (kA, 16, .inl (fun _ => (0 : Int32)))), (q15, .inl (kA, 24, .inl (fun _ => (0 : Int32)))), (q24, .inl (kA, 256, .inl (fun _ => (0 : Int32))))] H := hP
  have hD : va_D A [(a_sh, .inr (5, [.int (3 : Int32), .int (0 : Int32), .ref q7, .int 0, .ref q15, .ref q24])), (q7, .inl (kA, 16, .inl (fun _ => (0 : Int32)))), (q15, .inl (kA, 24, .inl (fun _ => (0 : Int32)))), (q24, .inl (kA, 256, .inl (fun _ => (0 : Int32))))] := hD
  refine lv_aload_n hx hb dX5_init_39 rfl (lv_at hl 0 rfl) ?_
  have hPc := hP.sub (ws' := [(a_sh, .inr (5, [.int (3 : Int32), .int (0 : Int32), .ref q7, .int 0, .ref q15, .ref q24])), (q15, .inl (kA, 24, .inl (fun _ => (0 : Int32))))]) [0, 2] rfl
  have hDc := hD.sub (ws' := [(a_sh, .inr (5, [.int (3 : Int32), .int (0 : Int32), .ref q7, .int 0, .ref q15, .ref q24])), (q15, .inl (kA, 24, .inl (fun _ => (0 : Int32))))]) [0, 2] (by decide) rfl
  refine fr_v (wr := [(q7, .inl (kA, 16, .inl (fun _ => (0 : Int32)))), (q24, .inl (kA, 256, .inl (fun _ => (0 : Int32))))]) (WN := fun (u40 : Int32 × (Nat → Int32)) => [(a_sh, .inr (5, [.int (3 : Int32), .int (0 : Int32), .ref q7, .int u40.1, .ref q15, .ref q24])), (q7, .inl (kA, 16, .inl (fun _ => (0 : Int32)))), (q15, .inl (kA, 24, .inl u40.2)), (q24, .inl (kA, 256, .inl (fun _ => (0 : Int32))))]) (va_runV (As := []) (rest := []) ⟨hx, hb, hml, hown, hts⟩ (c_X5_findOrders l dC dI kA a_sh q15 q7 q24 H.size (3 : Int32) (0 : Int32) 0 (fun _ => (0 : Int32)) _ h) (cwV 0 hts gX5_init_X5_findOrders rfl rfl rfl (by decide +kernel) ⟨Nat.le_of_ble_eq_true rfl, Nat.le_of_ble_eq_true rfl⟩) (prW.preV (ci := 5) (q0 := 0) hPc hDc hK hN rfl rfl) rfl rfl hl.1 rfl (lv_room (Nat.le_of_ble_eq_true rfl)) dX5_init_40 ⟨Nat.le_of_ble_eq_true rfl, Nat.le_of_ble_eq_true rfl⟩) hP hD hS hA [0, 2] [1, 3] rfl rfl (by decide) (by decide) [2, 0, 3, 1] (by decide) (fun _ => rfl) (fun u40 H locs h hP hD hS => ?_)
  obtain ⟨y40_ocn', y40_osF'⟩ := u40
  have hP : va_P (dC, dI) vwCl [(a_sh, .inr (5, [.int (3 : Int32), .int (0 : Int32), .ref q7, .int y40_ocn', .ref q15, .ref q24])), (q7, .inl (kA, 16, .inl (fun _ => (0 : Int32)))), (q15, .inl (kA, 24, .inl y40_osF')), (q24, .inl (kA, 256, .inl (fun _ => (0 : Int32))))] H := hP
  have hD : va_D A [(a_sh, .inr (5, [.int (3 : Int32), .int (0 : Int32), .ref q7, .int y40_ocn', .ref q15, .ref q24])), (q7, .inl (kA, 16, .inl (fun _ => (0 : Int32)))), (q15, .inl (kA, 24, .inl y40_osF')), (q24, .inl (kA, 256, .inl (fun _ => (0 : Int32))))] := hD
  rw [hQ]
  exact rt_v ((3 : Int32), (0 : Int32), y40_ocn', (fun _ => (0 : Int32)), y40_osF', (fun _ => (0 : Int32)), q7, q15, q24) hx hb hr hlocks h hP hD hS dX5_init_43

/-- RentOrBuy$Shelf.restart -/
def rmX5_restart : Room := { frames := 3, cells := 0, slots := 0, locals := 65 }
set_option maxHeartbeats 4000000 in
set_option maxRecDepth 100000 in
theorem c_X5_restart (l : Launch) (dC : Nat → ClassId) (dI : Nat → Nat → Nat) (kA : ClassId) (a_sh a_os a_ak a_le : Nat) (sz : Nat) (thg : Int32) (req : Int32) (ocn : Int32) (osF : Nat → Int32) (p1 : Int32) (K : Int32 → Int32 → Int32 → (Nat → Int32) → Prop) (hg : g_X5_restart thg req ocn osF p1 K) : Met l yX5_restart wsX5_restart rmX5_restart (va_Pc [.ref a_sh, .int p1] (prW (dC, dI) kA sz [(a_sh, .inr (5, [.int thg, .int req, .ref a_ak, .int ocn, .ref a_os, .ref a_le])), (a_os, .inl (kA, 24, .inl osF))])) (va_Qv (fun (u : Int32 × Int32 × Int32 × (Nat → Int32)) => K u.1 u.2.1 u.2.2.1 u.2.2.2) (poW (dC, dI) (va_A [(a_sh, .inr (5, [.int thg, .int req, .ref a_ak, .int ocn, .ref a_os, .ref a_le])), (a_os, .inl (kA, 24, .inl osF))] sz) (fun (u : Int32 × Int32 × Int32 × (Nat → Int32)) => [(a_sh, .inr (5, [.int u.1, .int u.2.1, .ref a_ak, .int u.2.2.1, .ref a_os, .ref a_le])), (a_os, .inl (kA, 24, .inl u.2.2.2))])) (va_A [(a_sh, .inr (5, [.int thg, .int req, .ref a_ak, .int ocn, .ref a_os, .ref a_le])), (a_os, .inl (kA, 24, .inl osF))] sz)) 0 0 (va_A [(a_sh, .inr (5, [.int thg, .int req, .ref a_ak, .int ocn, .ref a_os, .ref a_le])), (a_os, .inl (kA, 24, .inl osF))] sz) := by
  refine Met.ofW (cc := cX5_restart) (maxL := 2) (ret := none) (by decide) rfl ?_
  intro p e s m args below meth c s₁ B hml hv
  obtain ⟨hargs, hsz, hP, hK, hD0, hN⟩ := hv
  have hx := B.exec
  have hb := B.bytes
  have hr := B.returns
  have hts := atoms_spec (ws := wsX5_restart) B.pre
  have hown : s.vm.findClass RX5 = some m.cls := findClass_of_methodNamed B.named
  have hlocks := B.notSynchronized
  subst hsz
  have hD := hD0.self (sz := s.heap.size)
  generalize hAe : va_A [(a_sh, .inr (5, [.int thg, .int req, .ref a_ak, .int ocn, .ref a_os, .ref a_le])), (a_os, .inl (kA, 24, .inl osF))] s.heap.size = A at hD ⊢
  have hA : ∀ q : Nat, s.heap.size ≤ q → A q := fun q h => by rw [← hAe]; exact Or.inr h
  have hS : va_S A s.heap s.heap [] := va_S.rf
  obtain ⟨Q, hQ⟩ : ∃ Q : State → Prop, Q = MQ below (va_Qv (fun (u : Int32 × Int32 × Int32 × (Nat → Int32)) => K u.1 u.2.1 u.2.2.1 u.2.2.2) (poW (dC, dI) A (fun (u : Int32 × Int32 × Int32 × (Nat → Int32)) => [(a_sh, .inr (5, [.int u.1, .int u.2.1, .ref a_ak, .int u.2.2.1, .ref a_os, .ref a_le])), (a_os, .inl (kA, 24, .inl u.2.2.2))])) A) args s 0 0 A := ⟨_, rfl⟩
  rw [← hQ]
  have hP : va_P (dC, dI) vwCl [(a_sh, .inr (5, [.int thg, .int req, .ref a_ak, .int ocn, .ref a_os, .ref a_le])), (a_os, .inl (kA, 24, .inl osF))] s.heap := hP
  refine en_ok hargs (Nat.le_of_ble_eq_true rfl) (fun ls hl => ?_)
  have hl : lv_has ls 2 [(0, .ref a_sh), (1, .int p1)] := hl
  have h := hg
  unfold g_X5_restart at h
  refine lv_aload_n hx hb dX5_restart_0 rfl (lv_at hl 0 rfl) ?_
  refine lv_iload_n hx hb dX5_restart_1 rfl (lv_at hl 1 rfl) ?_
  refine va_put (D := (dC, dI)) (ci := 5) (v := .int p1) (ty := .int) (C := RX5) (T := TX5) (N := 6) hx hb hts (fun _ h => List.mem_cons_of_mem _ (List.mem_append_right _ h)) tyX5 tyX5_ok nmX5 hown hK hP hD hS 0 rfl rfl 0 (by decide) (hts (.fieldLink RX5 21 "RentOrBuy$Shelf" "things" "I") (List.mem_cons_of_mem _ (List.mem_append_left _ (List.mem_of_getElem? (i := 0) rfl)))) (fun _ h9 => h9) rfl (by decide +kernel) rfl rfl (Nat.le_of_ble_eq_true rfl) dX5_restart_2 (fun H locs hP hD hS => ?_)
  have hP : va_P (dC, dI) vwCl [(a_sh, .inr (5, [.int p1, .int req, .ref a_ak, .int ocn, .ref a_os, .ref a_le])), (a_os, .inl (kA, 24, .inl osF))] H := hP
  have hD : va_D A [(a_sh, .inr (5, [.int p1, .int req, .ref a_ak, .int ocn, .ref a_os, .ref a_le])), (a_os, .inl (kA, 24, .inl osF))] := hD
  refine lv_aload_n hx hb dX5_restart_5 rfl (lv_at hl 0 rfl) ?_
  refine lv_iconst (v := (0 : Int32)) hx hb dX5_restart_6 (by decide +kernel) ?_
  refine va_put (D := (dC, dI)) (ci := 5) (v := .int (0 : Int32)) (ty := .int) (C := RX5) (T := TX5) (N := 6) hx hb hts (fun _ h => List.mem_cons_of_mem _ (List.mem_append_right _ h)) tyX5 tyX5_ok nmX5 hown hK hP hD hS 0 rfl rfl 1 (by decide) (hts (.fieldLink RX5 25 "RentOrBuy$Shelf" "requests" "I") (List.mem_cons_of_mem _ (List.mem_append_left _ (List.mem_of_getElem? (i := 1) rfl)))) (fun _ h9 => h9) rfl (by decide +kernel) rfl rfl (Nat.le_of_ble_eq_true rfl) dX5_restart_7 (fun H locs hP hD hS => ?_)
  have hP : va_P (dC, dI) vwCl [(a_sh, .inr (5, [.int p1, .int (0 : Int32), .ref a_ak, .int ocn, .ref a_os, .ref a_le])), (a_os, .inl (kA, 24, .inl osF))] H := hP
  have hD : va_D A [(a_sh, .inr (5, [.int p1, .int (0 : Int32), .ref a_ak, .int ocn, .ref a_os, .ref a_le])), (a_os, .inl (kA, 24, .inl osF))] := hD
  refine lv_aload_n hx hb dX5_restart_10 rfl (lv_at hl 0 rfl) ?_
  have hPc := hP.sub (ws' := [(a_sh, .inr (5, [.int p1, .int (0 : Int32), .ref a_ak, .int ocn, .ref a_os, .ref a_le])), (a_os, .inl (kA, 24, .inl osF))]) [0, 1] rfl
  have hDc := hD.sub (ws' := [(a_sh, .inr (5, [.int p1, .int (0 : Int32), .ref a_ak, .int ocn, .ref a_os, .ref a_le])), (a_os, .inl (kA, 24, .inl osF))]) [0, 1] (by decide) rfl
  refine fr_v (wr := []) (WN := fun (u11 : Int32 × (Nat → Int32)) => [(a_sh, .inr (5, [.int p1, .int (0 : Int32), .ref a_ak, .int u11.1, .ref a_os, .ref a_le])), (a_os, .inl (kA, 24, .inl u11.2))]) (va_runV (As := []) (rest := []) ⟨hx, hb, hml, hown, hts⟩ (c_X5_findOrders l dC dI kA a_sh a_os a_ak a_le H.size p1 (0 : Int32) ocn osF _ h) (cwV 0 hts gX5_restart_X5_findOrders rfl rfl rfl (by decide +kernel) ⟨Nat.le_of_ble_eq_true rfl, Nat.le_of_ble_eq_true rfl⟩) (prW.preV (ci := 5) (q0 := 0) hPc hDc hK hN rfl rfl) rfl rfl hl.1 rfl (lv_room (Nat.le_of_ble_eq_true rfl)) dX5_restart_11 ⟨Nat.le_of_ble_eq_true rfl, Nat.le_of_ble_eq_true rfl⟩) hP hD hS hA [0, 1] [] rfl rfl (by decide) (by decide) [0, 1] (by decide) (fun _ => rfl) (fun u11 H locs h hP hD hS => ?_)
  obtain ⟨y11_ocn', y11_osF'⟩ := u11
  have hP : va_P (dC, dI) vwCl [(a_sh, .inr (5, [.int p1, .int (0 : Int32), .ref a_ak, .int y11_ocn', .ref a_os, .ref a_le])), (a_os, .inl (kA, 24, .inl y11_osF'))] H := hP
  have hD : va_D A [(a_sh, .inr (5, [.int p1, .int (0 : Int32), .ref a_ak, .int y11_ocn', .ref a_os, .ref a_le])), (a_os, .inl (kA, 24, .inl y11_osF'))] := hD
  rw [hQ]
  exact rt_v (p1, (0 : Int32), y11_ocn', y11_osF') hx hb hr hlocks h hP hD hS dX5_restart_14

/-- RentOrBuy.at -/
def rmX6_at : Room := { frames := 4, cells := 0, slots := 0, locals := 90 }
set_option maxHeartbeats 4000000 in
set_option maxRecDepth 100000 in
theorem c_X6_at (l : Launch) (dC : Nat → ClassId) (dI : Nat → Nat → Nat) (kA : ClassId) (a_x a_sh a_ak a_pl a_lo a_os a_le : Nat) (sz : Nat) (trc : Int64) (thg : Int32) (req : Int32) (ocn : Int32) (akF : Nat → Int32) (p1 : Int32) (K : Int32 → Prop) (hg : g_X6_at trc thg req ocn akF p1 K) : Met l yX6_at wsX6_at rmX6_at (va_Pc [.ref a_x, .int p1] (prW (dC, dI) kA sz [(a_x, .inr (6, [.ref a_pl, .ref a_lo, .ref a_sh, .long trc])), (a_sh, .inr (5, [.int thg, .int req, .ref a_ak, .int ocn, .ref a_os, .ref a_le])), (a_ak, .inl (kA, 16, .inl akF))])) (va_Qi (fun (r : Int32) (u : Unit) => K r) (poW (dC, dI) (va_A [(a_x, .inr (6, [.ref a_pl, .ref a_lo, .ref a_sh, .long trc])), (a_sh, .inr (5, [.int thg, .int req, .ref a_ak, .int ocn, .ref a_os, .ref a_le])), (a_ak, .inl (kA, 16, .inl akF))] sz) (fun (u : Unit) => [(a_x, .inr (6, [.ref a_pl, .ref a_lo, .ref a_sh, .long trc])), (a_sh, .inr (5, [.int thg, .int req, .ref a_ak, .int ocn, .ref a_os, .ref a_le])), (a_ak, .inl (kA, 16, .inl akF))])) (va_A [(a_x, .inr (6, [.ref a_pl, .ref a_lo, .ref a_sh, .long trc])), (a_sh, .inr (5, [.int thg, .int req, .ref a_ak, .int ocn, .ref a_os, .ref a_le])), (a_ak, .inl (kA, 16, .inl akF))] sz)) 0 0 (va_A [(a_x, .inr (6, [.ref a_pl, .ref a_lo, .ref a_sh, .long trc])), (a_sh, .inr (5, [.int thg, .int req, .ref a_ak, .int ocn, .ref a_os, .ref a_le])), (a_ak, .inl (kA, 16, .inl akF))] sz) := by
  refine Met.ofW (cc := cX6_at) (maxL := 2) (ret := (some .int)) (by decide) rfl ?_
  intro p e s m args below meth c s₁ B hml hv
  obtain ⟨hargs, hsz, hP, hK, hD0, hN⟩ := hv
  have hx := B.exec
  have hb := B.bytes
  have hr := B.returns
  have hts := atoms_spec (ws := wsX6_at) B.pre
  have hown : s.vm.findClass RX6 = some m.cls := findClass_of_methodNamed B.named
  have hlocks := B.notSynchronized
  subst hsz
  have hD := hD0.self (sz := s.heap.size)
  generalize hAe : va_A [(a_x, .inr (6, [.ref a_pl, .ref a_lo, .ref a_sh, .long trc])), (a_sh, .inr (5, [.int thg, .int req, .ref a_ak, .int ocn, .ref a_os, .ref a_le])), (a_ak, .inl (kA, 16, .inl akF))] s.heap.size = A at hD ⊢
  have hA : ∀ q : Nat, s.heap.size ≤ q → A q := fun q h => by rw [← hAe]; exact Or.inr h
  have hS : va_S A s.heap s.heap [] := va_S.rf
  obtain ⟨Q, hQ⟩ : ∃ Q : State → Prop, Q = MQ below (va_Qi (fun (r : Int32) (u : Unit) => K r) (poW (dC, dI) A (fun (u : Unit) => [(a_x, .inr (6, [.ref a_pl, .ref a_lo, .ref a_sh, .long trc])), (a_sh, .inr (5, [.int thg, .int req, .ref a_ak, .int ocn, .ref a_os, .ref a_le])), (a_ak, .inl (kA, 16, .inl akF))])) A) args s 0 0 A := ⟨_, rfl⟩
  rw [← hQ]
  have hP : va_P (dC, dI) vwCl [(a_x, .inr (6, [.ref a_pl, .ref a_lo, .ref a_sh, .long trc])), (a_sh, .inr (5, [.int thg, .int req, .ref a_ak, .int ocn, .ref a_os, .ref a_le])), (a_ak, .inl (kA, 16, .inl akF))] s.heap := hP
  refine en_ok hargs (Nat.le_of_ble_eq_true rfl) (fun ls hl => ?_)
  have hl : lv_has ls 2 [(0, .ref a_x), (1, .int p1)] := hl
  have h := hg
  unfold g_X6_at at h
  refine lv_iload_n hx hb dX6_at_0 rfl (lv_at hl 1 rfl) ?_
  refine lv_iconst (v := (1 : Int32)) hx hb dX6_at_1 (by decide +kernel) ?_
  refine lv_aload_n hx hb dX6_at_2 rfl (lv_at hl 0 rfl) ?_
  refine va_get (D := (dC, dI)) (ci := 6) (v := .ref a_sh) (C := RX6) (T := TX6) (N := 4) hx hb hts (fun _ h => List.mem_cons_of_mem _ (List.mem_append_left _ (List.mem_append_right _ h))) hown hK hP 0 rfl rfl 2 (by decide) (hts (.fieldLink RX6 26 "RentOrBuy" "shelf" "LRentOrBuy$Shelf;") (List.mem_cons_of_mem _ (List.mem_append_left _ (List.mem_append_left _ (List.mem_of_getElem? (i := 0) rfl))))) (fun _ h9 => h9) rfl dX6_at_3 ?_
  refine va_getN (D := (dC, dI)) (ci := 5) (v := .int thg) (C := RX5) (T := TX5) (N := 6) hx hb hts (fun _ h => List.mem_cons_of_mem _ (List.mem_append_right _ h)) hown hK hP 1 rfl rfl 0 (by decide) (hN.f 6 rfl) (fun _ h9 => h9) rfl dX6_at_6 ?_
  have hPc := hP.sub (ws' := []) [] rfl
  have hDc := hD.sub (ws' := []) [] (by decide) rfl
  refine fr_i (wr := [(a_x, .inr (6, [.ref a_pl, .ref a_lo, .ref a_sh, .long trc])), (a_sh, .inr (5, [.int thg, .int req, .ref a_ak, .int ocn, .ref a_os, .ref a_le])), (a_ak, .inl (kA, 16, .inl akF))]) (WN := fun (u9 : Unit) => [(a_x, .inr (6, [.ref a_pl, .ref a_lo, .ref a_sh, .long trc])), (a_sh, .inr (5, [.int thg, .int req, .ref a_ak, .int ocn, .ref a_os, .ref a_le])), (a_ak, .inl (kA, 16, .inl akF))]) (va_runS (As := [.int p1, .int (1 : Int32), .int thg]) (rest := []) ⟨hx, hb, hml, hown, hts⟩ (c_X6_isWithin l dC dI kA s.heap.size p1 (1 : Int32) thg _ h) (va_cwS 3 hts gX6_at_X6_isWithin rfl rfl rfl (by decide +kernel) ⟨Nat.le_of_ble_eq_true rfl, Nat.le_of_ble_eq_true rfl⟩) (prW.preS hPc hDc hK hN) rfl rfl hl.1 rfl (lv_room (Nat.le_of_ble_eq_true rfl)) dX6_at_9 ⟨Nat.le_of_ble_eq_true rfl, Nat.le_of_ble_eq_true rfl⟩) hP hD hS hA [] [0, 1, 2] rfl rfl (by decide) (by decide) [0, 1, 2] (by decide) (fun _ => rfl) (fun r9 u9 H locs h hP hD hS => ?_)
  have hP : va_P (dC, dI) vwCl [(a_x, .inr (6, [.ref a_pl, .ref a_lo, .ref a_sh, .long trc])), (a_sh, .inr (5, [.int thg, .int req, .ref a_ak, .int ocn, .ref a_os, .ref a_le])), (a_ak, .inl (kA, 16, .inl akF))] H := hP
  have hD : va_D A [(a_x, .inr (6, [.ref a_pl, .ref a_lo, .ref a_sh, .long trc])), (a_sh, .inr (5, [.int thg, .int req, .ref a_ak, .int ocn, .ref a_os, .ref a_le])), (a_ak, .inl (kA, 16, .inl akF))] := hD
  refine lv_if_ne (tgt := 17) hx hb dX6_at_12 (by decide) (fun c12 => ?_) (fun c12 => ?_)
  · replace h := h.1 c12
    refine lv_aload_n hx hb dX6_at_17 rfl (lv_at hl 0 rfl) ?_
    refine va_get (D := (dC, dI)) (ci := 6) (v := .ref a_sh) (C := RX6) (T := TX6) (N := 4) hx hb hts (fun _ h => List.mem_cons_of_mem _ (List.mem_append_left _ (List.mem_append_right _ h))) hown hK hP 0 rfl rfl 2 (by decide) (hts (.fieldLink RX6 26 "RentOrBuy" "shelf" "LRentOrBuy$Shelf;") (List.mem_cons_of_mem _ (List.mem_append_left _ (List.mem_append_left _ (List.mem_of_getElem? (i := 0) rfl))))) (fun _ h9 => h9) rfl dX6_at_18 ?_
    have hPc := hP.sub (ws' := [(a_sh, .inr (5, [.int thg, .int req, .ref a_ak, .int ocn, .ref a_os, .ref a_le])), (a_ak, .inl (kA, 16, .inl akF))]) [1, 2] rfl
    have hDc := hD.sub (ws' := [(a_sh, .inr (5, [.int thg, .int req, .ref a_ak, .int ocn, .ref a_os, .ref a_le])), (a_ak, .inl (kA, 16, .inl akF))]) [1, 2] (by decide) rfl
    refine fr_i (wr := [(a_x, .inr (6, [.ref a_pl, .ref a_lo, .ref a_sh, .long trc]))]) (WN := fun (u21 : Unit) => [(a_x, .inr (6, [.ref a_pl, .ref a_lo, .ref a_sh, .long trc])), (a_sh, .inr (5, [.int thg, .int req, .ref a_ak, .int ocn, .ref a_os, .ref a_le])), (a_ak, .inl (kA, 16, .inl akF))]) (va_runV (As := []) (rest := []) ⟨hx, hb, hml, hown, hts⟩ (c_X5_frontOrder l dC dI kA a_sh a_ak a_os a_le H.size thg req ocn akF _ h) (cwV 0 hts gX6_at_X5_frontOrder rfl rfl rfl (by decide +kernel) ⟨Nat.le_of_ble_eq_true rfl, Nat.le_of_ble_eq_true rfl⟩) (prW.preV (ci := 5) (q0 := 0) hPc hDc hK hN rfl rfl) rfl rfl hl.1 rfl (lv_room (Nat.le_of_ble_eq_true rfl)) dX6_at_21 ⟨Nat.le_of_ble_eq_true rfl, Nat.le_of_ble_eq_true rfl⟩) hP hD hS hA [1, 2] [0] rfl rfl (by decide) (by decide) [0, 1, 2] (by decide) (fun _ => rfl) (fun r21 u21 H locs h hP hD hS => ?_)
    have hP : va_P (dC, dI) vwCl [(a_x, .inr (6, [.ref a_pl, .ref a_lo, .ref a_sh, .long trc])), (a_sh, .inr (5, [.int thg, .int req, .ref a_ak, .int ocn, .ref a_os, .ref a_le])), (a_ak, .inl (kA, 16, .inl akF))] H := hP
    have hD : va_D A [(a_x, .inr (6, [.ref a_pl, .ref a_lo, .ref a_sh, .long trc])), (a_sh, .inr (5, [.int thg, .int req, .ref a_ak, .int ocn, .ref a_os, .ref a_le])), (a_ak, .inl (kA, 16, .inl akF))] := hD
    refine lv_iload_n hx hb dX6_at_24 rfl (lv_at hl 1 rfl) ?_
    refine lv_iconst (v := (1 : Int32)) hx hb dX6_at_25 (by decide +kernel) ?_
    refine lv_isub hx hb dX6_at_26 ?_
    have hPc := hP.sub (ws' := []) [] rfl
    have hDc := hD.sub (ws' := []) [] (by decide) rfl
    refine fr_i (wr := [(a_x, .inr (6, [.ref a_pl, .ref a_lo, .ref a_sh, .long trc])), (a_sh, .inr (5, [.int thg, .int req, .ref a_ak, .int ocn, .ref a_os, .ref a_le])), (a_ak, .inl (kA, 16, .inl akF))]) (WN := fun (u27 : Unit) => [(a_x, .inr (6, [.ref a_pl, .ref a_lo, .ref a_sh, .long trc])), (a_sh, .inr (5, [.int thg, .int req, .ref a_ak, .int ocn, .ref a_os, .ref a_le])), (a_ak, .inl (kA, 16, .inl akF))]) (va_runS (As := [.int r21, .int (p1 - (1 : Int32))]) (rest := []) ⟨hx, hb, hml, hown, hts⟩ (c_X5_thingAt l dC dI kA H.size r21 (p1 - (1 : Int32)) _ h) (va_cwS 2 hts gX6_at_X5_thingAt rfl rfl rfl (by decide +kernel) ⟨Nat.le_of_ble_eq_true rfl, Nat.le_of_ble_eq_true rfl⟩) (prW.preS hPc hDc hK hN) rfl rfl hl.1 rfl (lv_room (Nat.le_of_ble_eq_true rfl)) dX6_at_27 ⟨Nat.le_of_ble_eq_true rfl, Nat.le_of_ble_eq_true rfl⟩) hP hD hS hA [] [0, 1, 2] rfl rfl (by decide) (by decide) [0, 1, 2] (by decide) (fun _ => rfl) (fun r27 u27 H locs h hP hD hS => ?_)
    have hP : va_P (dC, dI) vwCl [(a_x, .inr (6, [.ref a_pl, .ref a_lo, .ref a_sh, .long trc])), (a_sh, .inr (5, [.int thg, .int req, .ref a_ak, .int ocn, .ref a_os, .ref a_le])), (a_ak, .inl (kA, 16, .inl akF))] H := hP
    have hD : va_D A [(a_x, .inr (6, [.ref a_pl, .ref a_lo, .ref a_sh, .long trc])), (a_sh, .inr (5, [.int thg, .int req, .ref a_ak, .int ocn, .ref a_os, .ref a_le])), (a_ak, .inl (kA, 16, .inl akF))] := hD
    rw [hQ]
    exact rt_i () hx hb hr hlocks h hP hD hS dX6_at_30
  · replace h := h.2 c12
    refine lv_iconst (v := (-1 : Int32)) hx hb dX6_at_15 (by decide +kernel) ?_
    rw [hQ]
    exact rt_i () hx hb hr hlocks h hP hD hS dX6_at_16

/-- RentOrBuy.bound -/
def rmX6_bound : Room := { frames := 4, cells := 0, slots := 0, locals := 84 }
set_option maxHeartbeats 4000000 in
set_option maxRecDepth 100000 in
theorem c_X6_bound (l : Launch) (dC : Nat → ClassId) (dI : Nat → Nat → Nat) (kA : ClassId) (a_x a_pl a_tk a_rs a_lo a_op a_oe a_sh : Nat) (sz : Nat) (trc : Int64) (days : Int32) (tkk : Nat) (tkd : Int32) (tkp : Int32) (tkr : Int32) (tkc : Int32) (rsF : Nat → Int32) (opF : Nat → Int32) (oeF : Nat → Int32) (p1 : Int32) (K : Int32 → Prop) (hg : g_X6_bound trc days tkk tkd tkp tkr tkc rsF opF oeF p1 K) : Met l yX6_bound wsX6_bound rmX6_bound (va_Pc [.ref a_x, .int p1] (prW (dC, dI) kA sz [(a_x, .inr (6, [.ref a_pl, .ref a_lo, .ref a_sh, .long trc])), (a_pl, .inr (3, [.int days, .ref a_tk, .ref a_rs])), (a_tk, tkE tkk tkd tkp tkr tkc), (a_rs, .inl (kA, 41, .inl rsF)), (a_lo, .inr (2, [.ref a_op, .ref a_oe])), (a_op, .inl (kA, 42, .inl opF)), (a_oe, .inl (kA, 42, .inl oeF))])) (va_Qi (fun (r : Int32) (u : Unit) => K r) (poW (dC, dI) (va_A [(a_x, .inr (6, [.ref a_pl, .ref a_lo, .ref a_sh, .long trc])), (a_pl, .inr (3, [.int days, .ref a_tk, .ref a_rs])), (a_tk, tkE tkk tkd tkp tkr tkc), (a_rs, .inl (kA, 41, .inl rsF)), (a_lo, .inr (2, [.ref a_op, .ref a_oe])), (a_op, .inl (kA, 42, .inl opF)), (a_oe, .inl (kA, 42, .inl oeF))] sz) (fun (u : Unit) => [(a_x, .inr (6, [.ref a_pl, .ref a_lo, .ref a_sh, .long trc])), (a_pl, .inr (3, [.int days, .ref a_tk, .ref a_rs])), (a_tk, tkE tkk tkd tkp tkr tkc), (a_rs, .inl (kA, 41, .inl rsF)), (a_lo, .inr (2, [.ref a_op, .ref a_oe])), (a_op, .inl (kA, 42, .inl opF)), (a_oe, .inl (kA, 42, .inl oeF))])) (va_A [(a_x, .inr (6, [.ref a_pl, .ref a_lo, .ref a_sh, .long trc])), (a_pl, .inr (3, [.int days, .ref a_tk, .ref a_rs])), (a_tk, tkE tkk tkd tkp tkr tkc), (a_rs, .inl (kA, 41, .inl rsF)), (a_lo, .inr (2, [.ref a_op, .ref a_oe])), (a_op, .inl (kA, 42, .inl opF)), (a_oe, .inl (kA, 42, .inl oeF))] sz)) 0 0 (va_A [(a_x, .inr (6, [.ref a_pl, .ref a_lo, .ref a_sh, .long trc])), (a_pl, .inr (3, [.int days, .ref a_tk, .ref a_rs])), (a_tk, tkE tkk tkd tkp tkr tkc), (a_rs, .inl (kA, 41, .inl rsF)), (a_lo, .inr (2, [.ref a_op, .ref a_oe])), (a_op, .inl (kA, 42, .inl opF)), (a_oe, .inl (kA, 42, .inl oeF))] sz) := by
  refine Met.ofW (cc := cX6_bound) (maxL := 3) (ret := (some .int)) (by decide) rfl ?_
  intro p e s m args below meth c s₁ B hml hv
  obtain ⟨hargs, hsz, hP, hK, hD0, hN⟩ := hv
  have hx := B.exec
  have hb := B.bytes
  have hr := B.returns
  have hts := atoms_spec (ws := wsX6_bound) B.pre
  have hown : s.vm.findClass RX6 = some m.cls := findClass_of_methodNamed B.named
  have hlocks := B.notSynchronized
  subst hsz
  have hD := hD0.self (sz := s.heap.size)
  generalize hAe : va_A [(a_x, .inr (6, [.ref a_pl, .ref a_lo, .ref a_sh, .long trc])), (a_pl, .inr (3, [.int days, .ref a_tk, .ref a_rs])), (a_tk, tkE tkk tkd tkp tkr tkc), (a_rs, .inl (kA, 41, .inl rsF)), (a_lo, .inr (2, [.ref a_op, .ref a_oe])), (a_op, .inl (kA, 42, .inl opF)), (a_oe, .inl (kA, 42, .inl oeF))] s.heap.size = A at hD ⊢
  have hA : ∀ q : Nat, s.heap.size ≤ q → A q := fun q h => by rw [← hAe]; exact Or.inr h
  have hS : va_S A s.heap s.heap [] := va_S.rf
  obtain ⟨Q, hQ⟩ : ∃ Q : State → Prop, Q = MQ below (va_Qi (fun (r : Int32) (u : Unit) => K r) (poW (dC, dI) A (fun (u : Unit) => [(a_x, .inr (6, [.ref a_pl, .ref a_lo, .ref a_sh, .long trc])), (a_pl, .inr (3, [.int days, .ref a_tk, .ref a_rs])), (a_tk, tkE tkk tkd tkp tkr tkc), (a_rs, .inl (kA, 41, .inl rsF)), (a_lo, .inr (2, [.ref a_op, .ref a_oe])), (a_op, .inl (kA, 42, .inl opF)), (a_oe, .inl (kA, 42, .inl oeF))])) A) args s 0 0 A := ⟨_, rfl⟩
  rw [← hQ]
  have hP : va_P (dC, dI) vwCl [(a_x, .inr (6, [.ref a_pl, .ref a_lo, .ref a_sh, .long trc])), (a_pl, .inr (3, [.int days, .ref a_tk, .ref a_rs])), (a_tk, tkE tkk tkd tkp tkr tkc), (a_rs, .inl (kA, 41, .inl rsF)), (a_lo, .inr (2, [.ref a_op, .ref a_oe])), (a_op, .inl (kA, 42, .inl opF)), (a_oe, .inl (kA, 42, .inl oeF))] s.heap := hP
  refine en_ok hargs (Nat.le_of_ble_eq_true rfl) (fun ls hl => ?_)
  have hl : lv_has ls 3 [(0, .ref a_x), (1, .int p1)] := hl
  have h := hg
  unfold g_X6_bound at h
  refine lv_iload_n hx hb dX6_bound_0 rfl (lv_at hl 1 rfl) ?_
  refine lv_iconst (v := (0 : Int32)) hx hb dX6_bound_1 (by decide +kernel) ?_
  refine lv_iconst (v := (1 : Int32)) hx hb dX6_bound_2 (by decide +kernel) ?_
  have hPc := hP.sub (ws' := []) [] rfl
  have hDc := hD.sub (ws' := []) [] (by decide) rfl
  refine fr_i (wr := [(a_x, .inr (6, [.ref a_pl, .ref a_lo, .ref a_sh, .long trc])), (a_pl, .inr (3, [.int days, .ref a_tk, .ref a_rs])), (a_tk, tkE tkk tkd tkp tkr tkc), (a_rs, .inl (kA, 41, .inl rsF)), (a_lo, .inr (2, [.ref a_op, .ref a_oe])), (a_op, .inl (kA, 42, .inl opF)), (a_oe, .inl (kA, 42, .inl oeF))]) (WN := fun (u3 : Unit) => [(a_x, .inr (6, [.ref a_pl, .ref a_lo, .ref a_sh, .long trc])), (a_pl, .inr (3, [.int days, .ref a_tk, .ref a_rs])), (a_tk, tkE tkk tkd tkp tkr tkc), (a_rs, .inl (kA, 41, .inl rsF)), (a_lo, .inr (2, [.ref a_op, .ref a_oe])), (a_op, .inl (kA, 42, .inl opF)), (a_oe, .inl (kA, 42, .inl oeF))]) (va_runS (As := [.int p1, .int (0 : Int32), .int (1 : Int32)]) (rest := []) ⟨hx, hb, hml, hown, hts⟩ (c_X6_isWithin l dC dI kA s.heap.size p1 (0 : Int32) (1 : Int32) _ h) (va_cwS 3 hts gX6_bound_X6_isWithin rfl rfl rfl (by decide +kernel) ⟨Nat.le_of_ble_eq_true rfl, Nat.le_of_ble_eq_true rfl⟩) (prW.preS hPc hDc hK hN) rfl rfl hl.1 rfl (lv_room (Nat.le_of_ble_eq_true rfl)) dX6_bound_3 ⟨Nat.le_of_ble_eq_true rfl, Nat.le_of_ble_eq_true rfl⟩) hP hD hS hA [] [0, 1, 2, 3, 4, 5, 6] rfl rfl (by decide) (by decide) [0, 1, 2, 3, 4, 5, 6] (by decide) (fun _ => rfl) (fun r3 u3 H locs h hP hD hS => ?_)
  have hP : va_P (dC, dI) vwCl [(a_x, .inr (6, [.ref a_pl, .ref a_lo, .ref a_sh, .long trc])), (a_pl, .inr (3, [.int days, .ref a_tk, .ref a_rs])), (a_tk, tkE tkk tkd tkp tkr tkc), (a_rs, .inl (kA, 41, .inl rsF)), (a_lo, .inr (2, [.ref a_op, .ref a_oe])), (a_op, .inl (kA, 42, .inl opF)), (a_oe, .inl (kA, 42, .inl oeF))] H := hP
  have hD : va_D A [(a_x, .inr (6, [.ref a_pl, .ref a_lo, .ref a_sh, .long trc])), (a_pl, .inr (3, [.int days, .ref a_tk, .ref a_rs])), (a_tk, tkE tkk tkd tkp tkr tkc), (a_rs, .inl (kA, 41, .inl rsF)), (a_lo, .inr (2, [.ref a_op, .ref a_oe])), (a_op, .inl (kA, 42, .inl opF)), (a_oe, .inl (kA, 42, .inl oeF))] := hD
  refine lv_if_ne (tgt := 11) hx hb dX6_bound_6 (by decide) (fun c6 => ?_) (fun c6 => ?_)
  · replace h := h.1 c6
    refine lv_iload_n hx hb dX6_bound_11 rfl (lv_at hl 1 rfl) ?_
    refine lv_if_ne (tgt := 25) hx hb dX6_bound_12 (by decide) (fun c12 => ?_) (fun c12 => ?_)
    · replace h := h.1 c12
      refine lv_aload_n hx hb dX6_bound_25 rfl (lv_at hl 0 rfl) ?_
      refine va_get (D := (dC, dI)) (ci := 6) (v := .ref a_lo) (C := RX6) (T := TX6) (N := 4) hx hb hts (fun _ h => List.mem_cons_of_mem _ (List.mem_append_left _ (List.mem_append_left _ (List.mem_append_left _ (List.mem_append_left _ (List.mem_append_left _ (List.mem_append_right _ h))))))) hown hK hP 0 rfl rfl 1 (by decide) (hts (.fieldLink RX6 19 "RentOrBuy" "lots" "LRentOrBuy$Lots;") (List.mem_cons_of_mem _ (List.mem_append_left _ (List.mem_append_left _ (List.mem_append_left _ (List.mem_append_left _ (List.mem_append_left _ (List.mem_append_left _ (List.mem_of_getElem? (i := 0) rfl))))))))) (fun _ h9 => h9) rfl dX6_bound_26 ?_
      refine va_getN (D := (dC, dI)) (ci := 2) (v := .ref a_oe) (C := RX2) (T := TX2) (N := 2) hx hb hts (fun _ h => List.mem_cons_of_mem _ (List.mem_append_left _ (List.mem_append_left _ (List.mem_append_left _ (List.mem_append_left _ (List.mem_append_right _ h)))))) hown hK hP 4 rfl rfl 1 (by decide) (hN.f 5 rfl) (fun _ h9 => h9) rfl dX6_bound_29 ?_
      have hPc := hP.sub (ws' := [(a_oe, .inl (kA, 42, .inl oeF))]) [6] rfl
      have hDc := hD.sub (ws' := [(a_oe, .inl (kA, 42, .inl oeF))]) [6] (by decide) rfl
      refine fr_i (wr := [(a_x, .inr (6, [.ref a_pl, .ref a_lo, .ref a_sh, .long trc])), (a_pl, .inr (3, [.int days, .ref a_tk, .ref a_rs])), (a_tk, tkE tkk tkd tkp tkr tkc), (a_rs, .inl (kA, 41, .inl rsF)), (a_lo, .inr (2, [.ref a_op, .ref a_oe])), (a_op, .inl (kA, 42, .inl opF))]) (WN := fun (u32 : Unit) => [(a_x, .inr (6, [.ref a_pl, .ref a_lo, .ref a_sh, .long trc])), (a_pl, .inr (3, [.int days, .ref a_tk, .ref a_rs])), (a_tk, tkE tkk tkd tkp tkr tkc), (a_rs, .inl (kA, 41, .inl rsF)), (a_lo, .inr (2, [.ref a_op, .ref a_oe])), (a_op, .inl (kA, 42, .inl opF)), (a_oe, .inl (kA, 42, .inl oeF))]) (va_runS (As := [.ref a_oe]) (rest := []) ⟨hx, hb, hml, hown, hts⟩ (c_X2_total l dC dI kA a_oe H.size oeF _ h) (va_cwS 1 hts gX6_bound_X2_total rfl rfl rfl (by decide +kernel) ⟨Nat.le_of_ble_eq_true rfl, Nat.le_of_ble_eq_true rfl⟩) (prW.preS hPc hDc hK hN) rfl rfl hl.1 rfl (lv_room (Nat.le_of_ble_eq_true rfl)) dX6_bound_32 ⟨Nat.le_of_ble_eq_true rfl, Nat.le_of_ble_eq_true rfl⟩) hP hD hS hA [6] [0, 1, 2, 3, 4, 5] rfl rfl (by decide) (by decide) [0, 1, 2, 3, 4, 5, 6] (by decide) (fun _ => rfl) (fun r32 u32 H locs h hP hD hS => ?_)
      have hP : va_P (dC, dI) vwCl [(a_x, .inr (6, [.ref a_pl, .ref a_lo, .ref a_sh, .long trc])), (a_pl, .inr (3, [.int days, .ref a_tk, .ref a_rs])), (a_tk, tkE tkk tkd tkp tkr tkc), (a_rs, .inl (kA, 41, .inl rsF)), (a_lo, .inr (2, [.ref a_op, .ref a_oe])), (a_op, .inl (kA, 42, .inl opF)), (a_oe, .inl (kA, 42, .inl oeF))] H := hP
      have hD : va_D A [(a_x, .inr (6, [.ref a_pl, .ref a_lo, .ref a_sh, .long trc])), (a_pl, .inr (3, [.int days, .ref a_tk, .ref a_rs])), (a_tk, tkE tkk tkd tkp tkr tkc), (a_rs, .inl (kA, 41, .inl rsF)), (a_lo, .inr (2, [.ref a_op, .ref a_oe])), (a_op, .inl (kA, 42, .inl opF)), (a_oe, .inl (kA, 42, .inl oeF))] := hD
      refine lv_istore_n (lv' := [(2, .int r32), (0, .ref a_x), (1, .int p1)]) hx hb dX6_bound_35 rfl hl (by decide) rfl (fun ls hl => ?_)
      refine lv_iload_n hx hb dX6_bound_36 rfl (lv_at hl 0 rfl) ?_
      refine lv_if_ne (tgt := 43) hx hb dX6_bound_37 (by decide) (fun c37 => ?_) (fun c37 => ?_)
      · replace h := h.1 c37
        refine lv_iload_n hx hb dX6_bound_43 rfl (lv_at hl 2 rfl) ?_
        refine lv_if_ne (tgt := 62) hx hb dX6_bound_44 (by decide) (fun c44 => ?_) (fun c44 => ?_)
        · replace h := h.1 c44
          refine lv_aload_n hx hb dX6_bound_62 rfl (lv_at hl 1 rfl) ?_
          refine va_get (D := (dC, dI)) (ci := 6) (v := .ref a_lo) (C := RX6) (T := TX6) (N := 4) hx hb hts (fun _ h => List.mem_cons_of_mem _ (List.mem_append_left _ (List.mem_append_left _ (List.mem_append_left _ (List.mem_append_left _ (List.mem_append_left _ (List.mem_append_right _ h))))))) hown hK hP 0 rfl rfl 1 (by decide) (hts (.fieldLink RX6 19 "RentOrBuy" "lots" "LRentOrBuy$Lots;") (List.mem_cons_of_mem _ (List.mem_append_left _ (List.mem_append_left _ (List.mem_append_left _ (List.mem_append_left _ (List.mem_append_left _ (List.mem_append_left _ (List.mem_of_getElem? (i := 0) rfl))))))))) (fun _ h9 => h9) rfl dX6_bound_63 ?_
          refine lv_aload_n hx hb dX6_bound_66 rfl (lv_at hl 1 rfl) ?_
          refine va_get (D := (dC, dI)) (ci := 6) (v := .ref a_pl) (C := RX6) (T := TX6) (N := 4) hx hb hts (fun _ h => List.mem_cons_of_mem _ (List.mem_append_left _ (List.mem_append_left _ (List.mem_append_left _ (List.mem_append_left _ (List.mem_append_left _ (List.mem_append_right _ h))))))) hown hK hP 0 rfl rfl 0 (by decide) (hts (.fieldLink RX6 10 "RentOrBuy" "plans" "LRentOrBuy$Plans;") (List.mem_cons_of_mem _ (List.mem_append_left _ (List.mem_append_left _ (List.mem_append_left _ (List.mem_append_left _ (List.mem_append_left _ (List.mem_append_left _ (List.mem_of_getElem? (i := 1) rfl))))))))) (fun _ h9 => h9) rfl dX6_bound_67 ?_
          refine lv_iload_n hx hb dX6_bound_70 rfl (lv_at hl 0 rfl) ?_
          have hPc := hP.sub (ws' := [(a_pl, .inr (3, [.int days, .ref a_tk, .ref a_rs])), (a_tk, tkE tkk tkd tkp tkr tkc), (a_rs, .inl (kA, 41, .inl rsF)), (a_lo, .inr (2, [.ref a_op, .ref a_oe])), (a_oe, .inl (kA, 42, .inl oeF))]) [1, 2, 3, 4, 6] rfl
          have hDc := hD.sub (ws' := [(a_pl, .inr (3, [.int days, .ref a_tk, .ref a_rs])), (a_tk, tkE tkk tkd tkp tkr tkc), (a_rs, .inl (kA, 41, .inl rsF)), (a_lo, .inr (2, [.ref a_op, .ref a_oe])), (a_oe, .inl (kA, 42, .inl oeF))]) [1, 2, 3, 4, 6] (by decide) rfl
          refine fr_l (wr := [(a_x, .inr (6, [.ref a_pl, .ref a_lo, .ref a_sh, .long trc])), (a_op, .inl (kA, 42, .inl opF))]) (WN := fun (u71 : Unit) => [(a_x, .inr (6, [.ref a_pl, .ref a_lo, .ref a_sh, .long trc])), (a_pl, .inr (3, [.int days, .ref a_tk, .ref a_rs])), (a_tk, tkE tkk tkd tkp tkr tkc), (a_rs, .inl (kA, 41, .inl rsF)), (a_lo, .inr (2, [.ref a_op, .ref a_oe])), (a_op, .inl (kA, 42, .inl opF)), (a_oe, .inl (kA, 42, .inl oeF))]) (va_runV (As := [.ref a_pl, .int r32]) (rest := []) ⟨hx, hb, hml, hown, hts⟩ (c_X2_lowerBound l dC dI kA a_pl a_tk a_rs a_lo a_oe a_op H.size days tkk tkd tkp tkr tkc rsF oeF r32 _ h) (cwV 2 hts gX6_bound_X2_lowerBound rfl rfl rfl (by decide +kernel) ⟨Nat.le_of_ble_eq_true rfl, Nat.le_of_ble_eq_true rfl⟩) (prW.preV (ci := 2) (q0 := 3) hPc hDc hK hN rfl rfl) rfl rfl hl.1 rfl (lv_room (Nat.le_of_ble_eq_true rfl)) dX6_bound_71 ⟨Nat.le_of_ble_eq_true rfl, Nat.le_of_ble_eq_true rfl⟩) hP hD hS hA [1, 2, 3, 4, 6] [0, 5] rfl rfl (by decide) (by decide) [0, 2, 3, 4, 5, 1, 6] (by decide) (fun _ => rfl) (fun r71 u71 H locs h hP hD hS => ?_)
          have hP : va_P (dC, dI) vwCl [(a_x, .inr (6, [.ref a_pl, .ref a_lo, .ref a_sh, .long trc])), (a_pl, .inr (3, [.int days, .ref a_tk, .ref a_rs])), (a_tk, tkE tkk tkd tkp tkr tkc), (a_rs, .inl (kA, 41, .inl rsF)), (a_lo, .inr (2, [.ref a_op, .ref a_oe])), (a_op, .inl (kA, 42, .inl opF)), (a_oe, .inl (kA, 42, .inl oeF))] H := hP
          have hD : va_D A [(a_x, .inr (6, [.ref a_pl, .ref a_lo, .ref a_sh, .long trc])), (a_pl, .inr (3, [.int days, .ref a_tk, .ref a_rs])), (a_tk, tkE tkk tkd tkp tkr tkc), (a_rs, .inl (kA, 41, .inl rsF)), (a_lo, .inr (2, [.ref a_op, .ref a_oe])), (a_op, .inl (kA, 42, .inl opF)), (a_oe, .inl (kA, 42, .inl oeF))] := hD
          refine lv_l2i hx hb dX6_bound_74 rfl ?_
          rw [hQ]
          exact rt_i () hx hb hr hlocks h hP hD hS dX6_bound_75
        · replace h := h.2 c44
          refine lv_aload_n hx hb dX6_bound_47 rfl (lv_at hl 1 rfl) ?_
          refine va_get (D := (dC, dI)) (ci := 6) (v := .ref a_lo) (C := RX6) (T := TX6) (N := 4) hx hb hts (fun _ h => List.mem_cons_of_mem _ (List.mem_append_left _ (List.mem_append_left _ (List.mem_append_left _ (List.mem_append_left _ (List.mem_append_left _ (List.mem_append_right _ h))))))) hown hK hP 0 rfl rfl 1 (by decide) (hts (.fieldLink RX6 19 "RentOrBuy" "lots" "LRentOrBuy$Lots;") (List.mem_cons_of_mem _ (List.mem_append_left _ (List.mem_append_left _ (List.mem_append_left _ (List.mem_append_left _ (List.mem_append_left _ (List.mem_append_left _ (List.mem_of_getElem? (i := 0) rfl))))))))) (fun _ h9 => h9) rfl dX6_bound_48 ?_
          refine lv_aload_n hx hb dX6_bound_51 rfl (lv_at hl 1 rfl) ?_
          refine va_get (D := (dC, dI)) (ci := 6) (v := .ref a_pl) (C := RX6) (T := TX6) (N := 4) hx hb hts (fun _ h => List.mem_cons_of_mem _ (List.mem_append_left _ (List.mem_append_left _ (List.mem_append_left _ (List.mem_append_left _ (List.mem_append_left _ (List.mem_append_right _ h))))))) hown hK hP 0 rfl rfl 0 (by decide) (hts (.fieldLink RX6 10 "RentOrBuy" "plans" "LRentOrBuy$Plans;") (List.mem_cons_of_mem _ (List.mem_append_left _ (List.mem_append_left _ (List.mem_append_left _ (List.mem_append_left _ (List.mem_append_left _ (List.mem_append_left _ (List.mem_of_getElem? (i := 1) rfl))))))))) (fun _ h9 => h9) rfl dX6_bound_52 ?_
          refine lv_iload_n hx hb dX6_bound_55 rfl (lv_at hl 0 rfl) ?_
          have hPc := hP.sub (ws' := [(a_pl, .inr (3, [.int days, .ref a_tk, .ref a_rs])), (a_tk, tkE tkk tkd tkp tkr tkc), (a_rs, .inl (kA, 41, .inl rsF)), (a_lo, .inr (2, [.ref a_op, .ref a_oe])), (a_op, .inl (kA, 42, .inl opF))]) [1, 2, 3, 4, 5] rfl
          have hDc := hD.sub (ws' := [(a_pl, .inr (3, [.int days, .ref a_tk, .ref a_rs])), (a_tk, tkE tkk tkd tkp tkr tkc), (a_rs, .inl (kA, 41, .inl rsF)), (a_lo, .inr (2, [.ref a_op, .ref a_oe])), (a_op, .inl (kA, 42, .inl opF))]) [1, 2, 3, 4, 5] (by decide) rfl
          refine fr_l (wr := [(a_x, .inr (6, [.ref a_pl, .ref a_lo, .ref a_sh, .long trc])), (a_oe, .inl (kA, 42, .inl oeF))]) (WN := fun (u56 : Unit) => [(a_x, .inr (6, [.ref a_pl, .ref a_lo, .ref a_sh, .long trc])), (a_pl, .inr (3, [.int days, .ref a_tk, .ref a_rs])), (a_tk, tkE tkk tkd tkp tkr tkc), (a_rs, .inl (kA, 41, .inl rsF)), (a_lo, .inr (2, [.ref a_op, .ref a_oe])), (a_op, .inl (kA, 42, .inl opF)), (a_oe, .inl (kA, 42, .inl oeF))]) (va_runV (As := [.ref a_pl, .int r32]) (rest := []) ⟨hx, hb, hml, hown, hts⟩ (c_X2_upperBound l dC dI kA a_pl a_tk a_rs a_lo a_op a_oe H.size days tkk tkd tkp tkr tkc rsF opF r32 _ h) (cwV 2 hts gX6_bound_X2_upperBound rfl rfl rfl (by decide +kernel) ⟨Nat.le_of_ble_eq_true rfl, Nat.le_of_ble_eq_true rfl⟩) (prW.preV (ci := 2) (q0 := 3) hPc hDc hK hN rfl rfl) rfl rfl hl.1 rfl (lv_room (Nat.le_of_ble_eq_true rfl)) dX6_bound_56 ⟨Nat.le_of_ble_eq_true rfl, Nat.le_of_ble_eq_true rfl⟩) hP hD hS hA [1, 2, 3, 4, 5] [0, 6] rfl rfl (by decide) (by decide) [0, 2, 3, 4, 5, 6, 1] (by decide) (fun _ => rfl) (fun r56 u56 H locs h hP hD hS => ?_)
          have hP : va_P (dC, dI) vwCl [(a_x, .inr (6, [.ref a_pl, .ref a_lo, .ref a_sh, .long trc])), (a_pl, .inr (3, [.int days, .ref a_tk, .ref a_rs])), (a_tk, tkE tkk tkd tkp tkr tkc), (a_rs, .inl (kA, 41, .inl rsF)), (a_lo, .inr (2, [.ref a_op, .ref a_oe])), (a_op, .inl (kA, 42, .inl opF)), (a_oe, .inl (kA, 42, .inl oeF))] H := hP
          have hD : va_D A [(a_x, .inr (6, [.ref a_pl, .ref a_lo, .ref a_sh, .long trc])), (a_pl, .inr (3, [.int days, .ref a_tk, .ref a_rs])), (a_tk, tkE tkk tkd tkp tkr tkc), (a_rs, .inl (kA, 41, .inl rsF)), (a_lo, .inr (2, [.ref a_op, .ref a_oe])), (a_op, .inl (kA, 42, .inl opF)), (a_oe, .inl (kA, 42, .inl oeF))] := hD
          refine lv_goto (tgt := 74) hx hb dX6_bound_59 (by decide) ?_
          refine lv_l2i hx hb dX6_bound_74 rfl ?_
          rw [hQ]
          exact rt_i () hx hb hr hlocks h hP hD hS dX6_bound_75
      · replace h := h.2 c37
        refine lv_bipush (v := (-2 : Int32)) hx hb dX6_bound_40 (by decide +kernel) ?_
        rw [hQ]
        exact rt_i () hx hb hr hlocks h hP hD hS dX6_bound_42
    · replace h := h.2 c12
      refine lv_aload_n hx hb dX6_bound_15 rfl (lv_at hl 0 rfl) ?_
      refine va_get (D := (dC, dI)) (ci := 6) (v := .ref a_lo) (C := RX6) (T := TX6) (N := 4) hx hb hts (fun _ h => List.mem_cons_of_mem _ (List.mem_append_left _ (List.mem_append_left _ (List.mem_append_left _ (List.mem_append_left _ (List.mem_append_left _ (List.mem_append_right _ h))))))) hown hK hP 0 rfl rfl 1 (by decide) (hts (.fieldLink RX6 19 "RentOrBuy" "lots" "LRentOrBuy$Lots;") (List.mem_cons_of_mem _ (List.mem_append_left _ (List.mem_append_left _ (List.mem_append_left _ (List.mem_append_left _ (List.mem_append_left _ (List.mem_append_left _ (List.mem_of_getElem? (i := 0) rfl))))))))) (fun _ h9 => h9) rfl dX6_bound_16 ?_
      refine va_getN (D := (dC, dI)) (ci := 2) (v := .ref a_op) (C := RX2) (T := TX2) (N := 2) hx hb hts (fun _ h => List.mem_cons_of_mem _ (List.mem_append_left _ (List.mem_append_left _ (List.mem_append_left _ (List.mem_append_left _ (List.mem_append_right _ h)))))) hown hK hP 4 rfl rfl 0 (by decide) (hN.f 4 rfl) (fun _ h9 => h9) rfl dX6_bound_19 ?_
      refine lv_goto (tgt := 32) hx hb dX6_bound_22 (by decide) ?_
      have hPc := hP.sub (ws' := [(a_op, .inl (kA, 42, .inl opF))]) [5] rfl
      have hDc := hD.sub (ws' := [(a_op, .inl (kA, 42, .inl opF))]) [5] (by decide) rfl
      refine fr_i (wr := [(a_x, .inr (6, [.ref a_pl, .ref a_lo, .ref a_sh, .long trc])), (a_pl, .inr (3, [.int days, .ref a_tk, .ref a_rs])), (a_tk, tkE tkk tkd tkp tkr tkc), (a_rs, .inl (kA, 41, .inl rsF)), (a_lo, .inr (2, [.ref a_op, .ref a_oe])), (a_oe, .inl (kA, 42, .inl oeF))]) (WN := fun (u32 : Unit) => [(a_x, .inr (6, [.ref a_pl, .ref a_lo, .ref a_sh, .long trc])), (a_pl, .inr (3, [.int days, .ref a_tk, .ref a_rs])), (a_tk, tkE tkk tkd tkp tkr tkc), (a_rs, .inl (kA, 41, .inl rsF)), (a_lo, .inr (2, [.ref a_op, .ref a_oe])), (a_op, .inl (kA, 42, .inl opF)), (a_oe, .inl (kA, 42, .inl oeF))]) (va_runS (As := [.ref a_op]) (rest := []) ⟨hx, hb, hml, hown, hts⟩ (c_X2_total l dC dI kA a_op H.size opF _ h) (va_cwS 1 hts gX6_bound_X2_total rfl rfl rfl (by decide +kernel) ⟨Nat.le_of_ble_eq_true rfl, Nat.le_of_ble_eq_true rfl⟩) (prW.preS hPc hDc hK hN) rfl rfl hl.1 rfl (lv_room (Nat.le_of_ble_eq_true rfl)) dX6_bound_32 ⟨Nat.le_of_ble_eq_true rfl, Nat.le_of_ble_eq_true rfl⟩) hP hD hS hA [5] [0, 1, 2, 3, 4, 6] rfl rfl (by decide) (by decide) [0, 1, 2, 3, 4, 6, 5] (by decide) (fun _ => rfl) (fun r32 u32 H locs h hP hD hS => ?_)
      have hP : va_P (dC, dI) vwCl [(a_x, .inr (6, [.ref a_pl, .ref a_lo, .ref a_sh, .long trc])), (a_pl, .inr (3, [.int days, .ref a_tk, .ref a_rs])), (a_tk, tkE tkk tkd tkp tkr tkc), (a_rs, .inl (kA, 41, .inl rsF)), (a_lo, .inr (2, [.ref a_op, .ref a_oe])), (a_op, .inl (kA, 42, .inl opF)), (a_oe, .inl (kA, 42, .inl oeF))] H := hP
      have hD : va_D A [(a_x, .inr (6, [.ref a_pl, .ref a_lo, .ref a_sh, .long trc])), (a_pl, .inr (3, [.int days, .ref a_tk, .ref a_rs])), (a_tk, tkE tkk tkd tkp tkr tkc), (a_rs, .inl (kA, 41, .inl rsF)), (a_lo, .inr (2, [.ref a_op, .ref a_oe])), (a_op, .inl (kA, 42, .inl opF)), (a_oe, .inl (kA, 42, .inl oeF))] := hD
      refine lv_istore_n (lv' := [(2, .int r32), (0, .ref a_x), (1, .int p1)]) hx hb dX6_bound_35 rfl hl (by decide) rfl (fun ls hl => ?_)
      refine lv_iload_n hx hb dX6_bound_36 rfl (lv_at hl 0 rfl) ?_
      refine lv_if_ne (tgt := 43) hx hb dX6_bound_37 (by decide) (fun c37 => ?_) (fun c37 => ?_)
      · replace h := h.1 c37
        refine lv_iload_n hx hb dX6_bound_43 rfl (lv_at hl 2 rfl) ?_
        refine lv_if_ne (tgt := 62) hx hb dX6_bound_44 (by decide) (fun c44 => ?_) (fun c44 => ?_)
        · replace h := h.1 c44
          refine lv_aload_n hx hb dX6_bound_62 rfl (lv_at hl 1 rfl) ?_
          refine va_get (D := (dC, dI)) (ci := 6) (v := .ref a_lo) (C := RX6) (T := TX6) (N := 4) hx hb hts (fun _ h => List.mem_cons_of_mem _ (List.mem_append_left _ (List.mem_append_left _ (List.mem_append_left _ (List.mem_append_left _ (List.mem_append_left _ (List.mem_append_right _ h))))))) hown hK hP 0 rfl rfl 1 (by decide) (hts (.fieldLink RX6 19 "RentOrBuy" "lots" "LRentOrBuy$Lots;") (List.mem_cons_of_mem _ (List.mem_append_left _ (List.mem_append_left _ (List.mem_append_left _ (List.mem_append_left _ (List.mem_append_left _ (List.mem_append_left _ (List.mem_of_getElem? (i := 0) rfl))))))))) (fun _ h9 => h9) rfl dX6_bound_63 ?_
          refine lv_aload_n hx hb dX6_bound_66 rfl (lv_at hl 1 rfl) ?_
          refine va_get (D := (dC, dI)) (ci := 6) (v := .ref a_pl) (C := RX6) (T := TX6) (N := 4) hx hb hts (fun _ h => List.mem_cons_of_mem _ (List.mem_append_left _ (List.mem_append_left _ (List.mem_append_left _ (List.mem_append_left _ (List.mem_append_left _ (List.mem_append_right _ h))))))) hown hK hP 0 rfl rfl 0 (by decide) (hts (.fieldLink RX6 10 "RentOrBuy" "plans" "LRentOrBuy$Plans;") (List.mem_cons_of_mem _ (List.mem_append_left _ (List.mem_append_left _ (List.mem_append_left _ (List.mem_append_left _ (List.mem_append_left _ (List.mem_append_left _ (List.mem_of_getElem? (i := 1) rfl))))))))) (fun _ h9 => h9) rfl dX6_bound_67 ?_
          refine lv_iload_n hx hb dX6_bound_70 rfl (lv_at hl 0 rfl) ?_
          have hPc := hP.sub (ws' := [(a_pl, .inr (3, [.int days, .ref a_tk, .ref a_rs])), (a_tk, tkE tkk tkd tkp tkr tkc), (a_rs, .inl (kA, 41, .inl rsF)), (a_lo, .inr (2, [.ref a_op, .ref a_oe])), (a_oe, .inl (kA, 42, .inl oeF))]) [1, 2, 3, 4, 6] rfl
          have hDc := hD.sub (ws' := [(a_pl, .inr (3, [.int days, .ref a_tk, .ref a_rs])), (a_tk, tkE tkk tkd tkp tkr tkc), (a_rs, .inl (kA, 41, .inl rsF)), (a_lo, .inr (2, [.ref a_op, .ref a_oe])), (a_oe, .inl (kA, 42, .inl oeF))]) [1, 2, 3, 4, 6] (by decide) rfl
          refine fr_l (wr := [(a_x, .inr (6, [.ref a_pl, .ref a_lo, .ref a_sh, .long trc])), (a_op, .inl (kA, 42, .inl opF))]) (WN := fun (u71 : Unit) => [(a_x, .inr (6, [.ref a_pl, .ref a_lo, .ref a_sh, .long trc])), (a_pl, .inr (3, [.int days, .ref a_tk, .ref a_rs])), (a_tk, tkE tkk tkd tkp tkr tkc), (a_rs, .inl (kA, 41, .inl rsF)), (a_lo, .inr (2, [.ref a_op, .ref a_oe])), (a_op, .inl (kA, 42, .inl opF)), (a_oe, .inl (kA, 42, .inl oeF))]) (va_runV (As := [.ref a_pl, .int r32]) (rest := []) ⟨hx, hb, hml, hown, hts⟩ (c_X2_lowerBound l dC dI kA a_pl a_tk a_rs a_lo a_oe a_op H.size days tkk tkd tkp tkr tkc rsF oeF r32 _ h) (cwV 2 hts gX6_bound_X2_lowerBound rfl rfl rfl (by decide +kernel) ⟨Nat.le_of_ble_eq_true rfl, Nat.le_of_ble_eq_true rfl⟩) (prW.preV (ci := 2) (q0 := 3) hPc hDc hK hN rfl rfl) rfl rfl hl.1 rfl (lv_room (Nat.le_of_ble_eq_true rfl)) dX6_bound_71 ⟨Nat.le_of_ble_eq_true rfl, Nat.le_of_ble_eq_true rfl⟩) hP hD hS hA [1, 2, 3, 4, 6] [0, 5] rfl rfl (by decide) (by decide) [0, 2, 3, 4, 5, 1, 6] (by decide) (fun _ => rfl) (fun r71 u71 H locs h hP hD hS => ?_)
          have hP : va_P (dC, dI) vwCl [(a_x, .inr (6, [.ref a_pl, .ref a_lo, .ref a_sh, .long trc])), (a_pl, .inr (3, [.int days, .ref a_tk, .ref a_rs])), (a_tk, tkE tkk tkd tkp tkr tkc), (a_rs, .inl (kA, 41, .inl rsF)), (a_lo, .inr (2, [.ref a_op, .ref a_oe])), (a_op, .inl (kA, 42, .inl opF)), (a_oe, .inl (kA, 42, .inl oeF))] H := hP
          have hD : va_D A [(a_x, .inr (6, [.ref a_pl, .ref a_lo, .ref a_sh, .long trc])), (a_pl, .inr (3, [.int days, .ref a_tk, .ref a_rs])), (a_tk, tkE tkk tkd tkp tkr tkc), (a_rs, .inl (kA, 41, .inl rsF)), (a_lo, .inr (2, [.ref a_op, .ref a_oe])), (a_op, .inl (kA, 42, .inl opF)), (a_oe, .inl (kA, 42, .inl oeF))] := hD
          refine lv_l2i hx hb dX6_bound_74 rfl ?_
          rw [hQ]
          exact rt_i () hx hb hr hlocks h hP hD hS dX6_bound_75
        · replace h := h.2 c44
          refine lv_aload_n hx hb dX6_bound_47 rfl (lv_at hl 1 rfl) ?_
          refine va_get (D := (dC, dI)) (ci := 6) (v := .ref a_lo) (C := RX6) (T := TX6) (N := 4) hx hb hts (fun _ h => List.mem_cons_of_mem _ (List.mem_append_left _ (List.mem_append_left _ (List.mem_append_left _ (List.mem_append_left _ (List.mem_append_left _ (List.mem_append_right _ h))))))) hown hK hP 0 rfl rfl 1 (by decide) (hts (.fieldLink RX6 19 "RentOrBuy" "lots" "LRentOrBuy$Lots;") (List.mem_cons_of_mem _ (List.mem_append_left _ (List.mem_append_left _ (List.mem_append_left _ (List.mem_append_left _ (List.mem_append_left _ (List.mem_append_left _ (List.mem_of_getElem? (i := 0) rfl))))))))) (fun _ h9 => h9) rfl dX6_bound_48 ?_
          refine lv_aload_n hx hb dX6_bound_51 rfl (lv_at hl 1 rfl) ?_
          refine va_get (D := (dC, dI)) (ci := 6) (v := .ref a_pl) (C := RX6) (T := TX6) (N := 4) hx hb hts (fun _ h => List.mem_cons_of_mem _ (List.mem_append_left _ (List.mem_append_left _ (List.mem_append_left _ (List.mem_append_left _ (List.mem_append_left _ (List.mem_append_right _ h))))))) hown hK hP 0 rfl rfl 0 (by decide) (hts (.fieldLink RX6 10 "RentOrBuy" "plans" "LRentOrBuy$Plans;") (List.mem_cons_of_mem _ (List.mem_append_left _ (List.mem_append_left _ (List.mem_append_left _ (List.mem_append_left _ (List.mem_append_left _ (List.mem_append_left _ (List.mem_of_getElem? (i := 1) rfl))))))))) (fun _ h9 => h9) rfl dX6_bound_52 ?_
          refine lv_iload_n hx hb dX6_bound_55 rfl (lv_at hl 0 rfl) ?_
          have hPc := hP.sub (ws' := [(a_pl, .inr (3, [.int days, .ref a_tk, .ref a_rs])), (a_tk, tkE tkk tkd tkp tkr tkc), (a_rs, .inl (kA, 41, .inl rsF)), (a_lo, .inr (2, [.ref a_op, .ref a_oe])), (a_op, .inl (kA, 42, .inl opF))]) [1, 2, 3, 4, 5] rfl
          have hDc := hD.sub (ws' := [(a_pl, .inr (3, [.int days, .ref a_tk, .ref a_rs])), (a_tk, tkE tkk tkd tkp tkr tkc), (a_rs, .inl (kA, 41, .inl rsF)), (a_lo, .inr (2, [.ref a_op, .ref a_oe])), (a_op, .inl (kA, 42, .inl opF))]) [1, 2, 3, 4, 5] (by decide) rfl
          refine fr_l (wr := [(a_x, .inr (6, [.ref a_pl, .ref a_lo, .ref a_sh, .long trc])), (a_oe, .inl (kA, 42, .inl oeF))]) (WN := fun (u56 : Unit) => [(a_x, .inr (6, [.ref a_pl, .ref a_lo, .ref a_sh, .long trc])), (a_pl, .inr (3, [.int days, .ref a_tk, .ref a_rs])), (a_tk, tkE tkk tkd tkp tkr tkc), (a_rs, .inl (kA, 41, .inl rsF)), (a_lo, .inr (2, [.ref a_op, .ref a_oe])), (a_op, .inl (kA, 42, .inl opF)), (a_oe, .inl (kA, 42, .inl oeF))]) (va_runV (As := [.ref a_pl, .int r32]) (rest := []) ⟨hx, hb, hml, hown, hts⟩ (c_X2_upperBound l dC dI kA a_pl a_tk a_rs a_lo a_op a_oe H.size days tkk tkd tkp tkr tkc rsF opF r32 _ h) (cwV 2 hts gX6_bound_X2_upperBound rfl rfl rfl (by decide +kernel) ⟨Nat.le_of_ble_eq_true rfl, Nat.le_of_ble_eq_true rfl⟩) (prW.preV (ci := 2) (q0 := 3) hPc hDc hK hN rfl rfl) rfl rfl hl.1 rfl (lv_room (Nat.le_of_ble_eq_true rfl)) dX6_bound_56 ⟨Nat.le_of_ble_eq_true rfl, Nat.le_of_ble_eq_true rfl⟩) hP hD hS hA [1, 2, 3, 4, 5] [0, 6] rfl rfl (by decide) (by decide) [0, 2, 3, 4, 5, 6, 1] (by decide) (fun _ => rfl) (fun r56 u56 H locs h hP hD hS => ?_)
          have hP : va_P (dC, dI) vwCl [(a_x, .inr (6, [.ref a_pl, .ref a_lo, .ref a_sh, .long trc])), (a_pl, .inr (3, [.int days, .ref a_tk, .ref a_rs])), (a_tk, tkE tkk tkd tkp tkr tkc), (a_rs, .inl (kA, 41, .inl rsF)), (a_lo, .inr (2, [.ref a_op, .ref a_oe])), (a_op, .inl (kA, 42, .inl opF)), (a_oe, .inl (kA, 42, .inl oeF))] H := hP
          have hD : va_D A [(a_x, .inr (6, [.ref a_pl, .ref a_lo, .ref a_sh, .long trc])), (a_pl, .inr (3, [.int days, .ref a_tk, .ref a_rs])), (a_tk, tkE tkk tkd tkp tkr tkc), (a_rs, .inl (kA, 41, .inl rsF)), (a_lo, .inr (2, [.ref a_op, .ref a_oe])), (a_op, .inl (kA, 42, .inl opF)), (a_oe, .inl (kA, 42, .inl oeF))] := hD
          refine lv_goto (tgt := 74) hx hb dX6_bound_59 (by decide) ?_
          refine lv_l2i hx hb dX6_bound_74 rfl ?_
          rw [hQ]
          exact rt_i () hx hb hr hlocks h hP hD hS dX6_bound_75
      · replace h := h.2 c37
        refine lv_bipush (v := (-2 : Int32)) hx hb dX6_bound_40 (by decide +kernel) ?_
        rw [hQ]
        exact rt_i () hx hb hr hlocks h hP hD hS dX6_bound_42
  · replace h := h.2 c6
    refine lv_iconst (v := (-1 : Int32)) hx hb dX6_bound_9 (by decide +kernel) ?_
    rw [hQ]
    exact rt_i () hx hb hr hlocks h hP hD hS dX6_bound_10

/-- RentOrBuy.cost -/
def rmX6_cost : Room := { frames := 2, cells := 0, slots := 0, locals := 43 }
set_option maxHeartbeats 4000000 in
set_option maxRecDepth 100000 in
theorem c_X6_cost (l : Launch) (dC : Nat → ClassId) (dI : Nat → Nat → Nat) (kA : ClassId) (a_x a_pl a_tk a_rs a_lo a_sh : Nat) (sz : Nat) (trc : Int64) (days : Int32) (tkk : Nat) (tkd : Int32) (tkp : Int32) (tkr : Int32) (tkc : Int32) (rsF : Nat → Int32) (p1 : Int32) (p2 : Int32) (K : Int32 → Prop) (hg : g_X6_cost trc days tkk tkd tkp tkr tkc rsF p1 p2 K) : Met l yX6_cost wsX6_cost rmX6_cost (va_Pc [.ref a_x, .int p1, .int p2] (prW (dC, dI) kA sz [(a_x, .inr (6, [.ref a_pl, .ref a_lo, .ref a_sh, .long trc])), (a_pl, .inr (3, [.int days, .ref a_tk, .ref a_rs])), (a_tk, tkE tkk tkd tkp tkr tkc), (a_rs, .inl (kA, 41, .inl rsF))])) (va_Qi (fun (r : Int32) (u : Unit) => K r) (poW (dC, dI) (va_A [(a_x, .inr (6, [.ref a_pl, .ref a_lo, .ref a_sh, .long trc])), (a_pl, .inr (3, [.int days, .ref a_tk, .ref a_rs])), (a_tk, tkE tkk tkd tkp tkr tkc), (a_rs, .inl (kA, 41, .inl rsF))] sz) (fun (u : Unit) => [(a_x, .inr (6, [.ref a_pl, .ref a_lo, .ref a_sh, .long trc])), (a_pl, .inr (3, [.int days, .ref a_tk, .ref a_rs])), (a_tk, tkE tkk tkd tkp tkr tkc), (a_rs, .inl (kA, 41, .inl rsF))])) (va_A [(a_x, .inr (6, [.ref a_pl, .ref a_lo, .ref a_sh, .long trc])), (a_pl, .inr (3, [.int days, .ref a_tk, .ref a_rs])), (a_tk, tkE tkk tkd tkp tkr tkc), (a_rs, .inl (kA, 41, .inl rsF))] sz)) 0 0 (va_A [(a_x, .inr (6, [.ref a_pl, .ref a_lo, .ref a_sh, .long trc])), (a_pl, .inr (3, [.int days, .ref a_tk, .ref a_rs])), (a_tk, tkE tkk tkd tkp tkr tkc), (a_rs, .inl (kA, 41, .inl rsF))] sz) := by
  refine Met.ofW (cc := cX6_cost) (maxL := 3) (ret := (some .int)) (by decide) rfl ?_
  intro p e s m args below meth c s₁ B hml hv
  obtain ⟨hargs, hsz, hP, hK, hD0, hN⟩ := hv
  have hx := B.exec
  have hb := B.bytes
  have hr := B.returns
  have hts := atoms_spec (ws := wsX6_cost) B.pre
  have hown : s.vm.findClass RX6 = some m.cls := findClass_of_methodNamed B.named
  have hlocks := B.notSynchronized
  subst hsz
  have hD := hD0.self (sz := s.heap.size)
  generalize hAe : va_A [(a_x, .inr (6, [.ref a_pl, .ref a_lo, .ref a_sh, .long trc])), (a_pl, .inr (3, [.int days, .ref a_tk, .ref a_rs])), (a_tk, tkE tkk tkd tkp tkr tkc), (a_rs, .inl (kA, 41, .inl rsF))] s.heap.size = A at hD ⊢
  have hA : ∀ q : Nat, s.heap.size ≤ q → A q := fun q h => by rw [← hAe]; exact Or.inr h
  have hS : va_S A s.heap s.heap [] := va_S.rf
  obtain ⟨Q, hQ⟩ : ∃ Q : State → Prop, Q = MQ below (va_Qi (fun (r : Int32) (u : Unit) => K r) (poW (dC, dI) A (fun (u : Unit) => [(a_x, .inr (6, [.ref a_pl, .ref a_lo, .ref a_sh, .long trc])), (a_pl, .inr (3, [.int days, .ref a_tk, .ref a_rs])), (a_tk, tkE tkk tkd tkp tkr tkc), (a_rs, .inl (kA, 41, .inl rsF))])) A) args s 0 0 A := ⟨_, rfl⟩
  rw [← hQ]
  have hP : va_P (dC, dI) vwCl [(a_x, .inr (6, [.ref a_pl, .ref a_lo, .ref a_sh, .long trc])), (a_pl, .inr (3, [.int days, .ref a_tk, .ref a_rs])), (a_tk, tkE tkk tkd tkp tkr tkc), (a_rs, .inl (kA, 41, .inl rsF))] s.heap := hP
  refine en_ok hargs (Nat.le_of_ble_eq_true rfl) (fun ls hl => ?_)
  have hl : lv_has ls 3 [(0, .ref a_x), (1, .int p1), (2, .int p2)] := hl
  have h := hg
  unfold g_X6_cost at h
  refine lv_aload_n hx hb dX6_cost_0 rfl (lv_at hl 0 rfl) ?_
  refine va_get (D := (dC, dI)) (ci := 6) (v := .ref a_pl) (C := RX6) (T := TX6) (N := 4) hx hb hts (fun _ h => List.mem_cons_of_mem _ (List.mem_append_left _ (List.mem_append_left _ (List.mem_append_left _ (List.mem_append_left _ (List.mem_append_right _ h)))))) hown hK hP 0 rfl rfl 0 (by decide) (hts (.fieldLink RX6 10 "RentOrBuy" "plans" "LRentOrBuy$Plans;") (List.mem_cons_of_mem _ (List.mem_append_left _ (List.mem_append_left _ (List.mem_append_left _ (List.mem_append_left _ (List.mem_append_left _ (List.mem_of_getElem? (i := 0) rfl)))))))) (fun _ h9 => h9) rfl dX6_cost_1 ?_
  refine lv_iload_n hx hb dX6_cost_4 rfl (lv_at hl 1 rfl) ?_
  have hPc := hP.sub (ws' := [(a_pl, .inr (3, [.int days, .ref a_tk, .ref a_rs]))]) [1] rfl
  have hDc := hD.sub (ws' := [(a_pl, .inr (3, [.int days, .ref a_tk, .ref a_rs]))]) [1] (by decide) rfl
  refine fr_i (wr := [(a_x, .inr (6, [.ref a_pl, .ref a_lo, .ref a_sh, .long trc])), (a_tk, tkE tkk tkd tkp tkr tkc), (a_rs, .inl (kA, 41, .inl rsF))]) (WN := fun (u5 : Unit) => [(a_x, .inr (6, [.ref a_pl, .ref a_lo, .ref a_sh, .long trc])), (a_pl, .inr (3, [.int days, .ref a_tk, .ref a_rs])), (a_tk, tkE tkk tkd tkp tkr tkc), (a_rs, .inl (kA, 41, .inl rsF))]) (va_runV (As := [.int p1]) (rest := []) ⟨hx, hb, hml, hown, hts⟩ (c_X3_isPlan l dC dI kA a_pl a_tk a_rs s.heap.size days p1 _ h) (cwV 1 hts gX6_cost_X3_isPlan rfl rfl rfl (by decide +kernel) ⟨Nat.le_of_ble_eq_true rfl, Nat.le_of_ble_eq_true rfl⟩) (prW.preV (ci := 3) (q0 := 0) hPc hDc hK hN rfl rfl) rfl rfl hl.1 rfl (lv_room (Nat.le_of_ble_eq_true rfl)) dX6_cost_5 ⟨Nat.le_of_ble_eq_true rfl, Nat.le_of_ble_eq_true rfl⟩) hP hD hS hA [1] [0, 2, 3] rfl rfl (by decide) (by decide) [0, 3, 1, 2] (by decide) (fun _ => rfl) (fun r5 u5 H locs h hP hD hS => ?_)
  have hP : va_P (dC, dI) vwCl [(a_x, .inr (6, [.ref a_pl, .ref a_lo, .ref a_sh, .long trc])), (a_pl, .inr (3, [.int days, .ref a_tk, .ref a_rs])), (a_tk, tkE tkk tkd tkp tkr tkc), (a_rs, .inl (kA, 41, .inl rsF))] H := hP
  have hD : va_D A [(a_x, .inr (6, [.ref a_pl, .ref a_lo, .ref a_sh, .long trc])), (a_pl, .inr (3, [.int days, .ref a_tk, .ref a_rs])), (a_tk, tkE tkk tkd tkp tkr tkc), (a_rs, .inl (kA, 41, .inl rsF))] := hD
  refine lv_if_eq (tgt := 22) hx hb dX6_cost_8 (by decide) (fun c8 => ?_) (fun c8 => ?_)
  · replace h := h.1 c8
    refine lv_iconst (v := (-1 : Int32)) hx hb dX6_cost_22 (by decide +kernel) ?_
    rw [hQ]
    exact rt_i () hx hb hr hlocks h hP hD hS dX6_cost_23
  · replace h := h.2 c8
    refine lv_aload_n hx hb dX6_cost_11 rfl (lv_at hl 0 rfl) ?_
    refine va_get (D := (dC, dI)) (ci := 6) (v := .ref a_pl) (C := RX6) (T := TX6) (N := 4) hx hb hts (fun _ h => List.mem_cons_of_mem _ (List.mem_append_left _ (List.mem_append_left _ (List.mem_append_left _ (List.mem_append_left _ (List.mem_append_right _ h)))))) hown hK hP 0 rfl rfl 0 (by decide) (hts (.fieldLink RX6 10 "RentOrBuy" "plans" "LRentOrBuy$Plans;") (List.mem_cons_of_mem _ (List.mem_append_left _ (List.mem_append_left _ (List.mem_append_left _ (List.mem_append_left _ (List.mem_append_left _ (List.mem_of_getElem? (i := 0) rfl)))))))) (fun _ h9 => h9) rfl dX6_cost_12 ?_
    refine lv_iload_n hx hb dX6_cost_15 rfl (lv_at hl 2 rfl) ?_
    have hPc := hP.sub (ws' := [(a_pl, .inr (3, [.int days, .ref a_tk, .ref a_rs]))]) [1] rfl
    have hDc := hD.sub (ws' := [(a_pl, .inr (3, [.int days, .ref a_tk, .ref a_rs]))]) [1] (by decide) rfl
    refine fr_i (wr := [(a_x, .inr (6, [.ref a_pl, .ref a_lo, .ref a_sh, .long trc])), (a_tk, tkE tkk tkd tkp tkr tkc), (a_rs, .inl (kA, 41, .inl rsF))]) (WN := fun (u16 : Unit) => [(a_x, .inr (6, [.ref a_pl, .ref a_lo, .ref a_sh, .long trc])), (a_pl, .inr (3, [.int days, .ref a_tk, .ref a_rs])), (a_tk, tkE tkk tkd tkp tkr tkc), (a_rs, .inl (kA, 41, .inl rsF))]) (va_runV (As := [.int p2]) (rest := []) ⟨hx, hb, hml, hown, hts⟩ (c_X3_isEnd l dC dI kA a_pl a_tk a_rs H.size days p2 _ h) (cwV 1 hts gX6_cost_X3_isEnd rfl rfl rfl (by decide +kernel) ⟨Nat.le_of_ble_eq_true rfl, Nat.le_of_ble_eq_true rfl⟩) (prW.preV (ci := 3) (q0 := 0) hPc hDc hK hN rfl rfl) rfl rfl hl.1 rfl (lv_room (Nat.le_of_ble_eq_true rfl)) dX6_cost_16 ⟨Nat.le_of_ble_eq_true rfl, Nat.le_of_ble_eq_true rfl⟩) hP hD hS hA [1] [0, 2, 3] rfl rfl (by decide) (by decide) [0, 3, 1, 2] (by decide) (fun _ => rfl) (fun r16 u16 H locs h hP hD hS => ?_)
    have hP : va_P (dC, dI) vwCl [(a_x, .inr (6, [.ref a_pl, .ref a_lo, .ref a_sh, .long trc])), (a_pl, .inr (3, [.int days, .ref a_tk, .ref a_rs])), (a_tk, tkE tkk tkd tkp tkr tkc), (a_rs, .inl (kA, 41, .inl rsF))] H := hP
    have hD : va_D A [(a_x, .inr (6, [.ref a_pl, .ref a_lo, .ref a_sh, .long trc])), (a_pl, .inr (3, [.int days, .ref a_tk, .ref a_rs])), (a_tk, tkE tkk tkd tkp tkr tkc), (a_rs, .inl (kA, 41, .inl rsF))] := hD
    refine lv_if_ne (tgt := 24) hx hb dX6_cost_19 (by decide) (fun c19 => ?_) (fun c19 => ?_)
    · replace h := h.1 c19
      refine lv_aload_n hx hb dX6_cost_24 rfl (lv_at hl 0 rfl) ?_
      refine va_get (D := (dC, dI)) (ci := 6) (v := .ref a_pl) (C := RX6) (T := TX6) (N := 4) hx hb hts (fun _ h => List.mem_cons_of_mem _ (List.mem_append_left _ (List.mem_append_left _ (List.mem_append_left _ (List.mem_append_left _ (List.mem_append_right _ h)))))) hown hK hP 0 rfl rfl 0 (by decide) (hts (.fieldLink RX6 10 "RentOrBuy" "plans" "LRentOrBuy$Plans;") (List.mem_cons_of_mem _ (List.mem_append_left _ (List.mem_append_left _ (List.mem_append_left _ (List.mem_append_left _ (List.mem_append_left _ (List.mem_of_getElem? (i := 0) rfl)))))))) (fun _ h9 => h9) rfl dX6_cost_25 ?_
      refine lv_iload_n hx hb dX6_cost_28 rfl (lv_at hl 1 rfl) ?_
      refine lv_iload_n hx hb dX6_cost_29 rfl (lv_at hl 2 rfl) ?_
      have hPc := hP.sub (ws' := [(a_pl, .inr (3, [.int days, .ref a_tk, .ref a_rs])), (a_tk, tkE tkk tkd tkp tkr tkc), (a_rs, .inl (kA, 41, .inl rsF))]) [1, 2, 3] rfl
      have hDc := hD.sub (ws' := [(a_pl, .inr (3, [.int days, .ref a_tk, .ref a_rs])), (a_tk, tkE tkk tkd tkp tkr tkc), (a_rs, .inl (kA, 41, .inl rsF))]) [1, 2, 3] (by decide) rfl
      refine fr_i (wr := [(a_x, .inr (6, [.ref a_pl, .ref a_lo, .ref a_sh, .long trc]))]) (WN := fun (u30 : Unit) => [(a_x, .inr (6, [.ref a_pl, .ref a_lo, .ref a_sh, .long trc])), (a_pl, .inr (3, [.int days, .ref a_tk, .ref a_rs])), (a_tk, tkE tkk tkd tkp tkr tkc), (a_rs, .inl (kA, 41, .inl rsF))]) (va_runV (As := [.int p1, .int p2]) (rest := []) ⟨hx, hb, hml, hown, hts⟩ (c_X3_costOf l dC dI kA a_pl a_tk a_rs H.size days tkk tkd tkp tkr tkc rsF p1 p2 _ h) (cwV 2 hts gX6_cost_X3_costOf rfl rfl rfl (by decide +kernel) ⟨Nat.le_of_ble_eq_true rfl, Nat.le_of_ble_eq_true rfl⟩) (prW.preV (ci := 3) (q0 := 0) hPc hDc hK hN rfl rfl) rfl rfl hl.1 rfl (lv_room (Nat.le_of_ble_eq_true rfl)) dX6_cost_30 ⟨Nat.le_of_ble_eq_true rfl, Nat.le_of_ble_eq_true rfl⟩) hP hD hS hA [1, 2, 3] [0] rfl rfl (by decide) (by decide) [0, 1, 2, 3] (by decide) (fun _ => rfl) (fun r30 u30 H locs h hP hD hS => ?_)
      have hP : va_P (dC, dI) vwCl [(a_x, .inr (6, [.ref a_pl, .ref a_lo, .ref a_sh, .long trc])), (a_pl, .inr (3, [.int days, .ref a_tk, .ref a_rs])), (a_tk, tkE tkk tkd tkp tkr tkc), (a_rs, .inl (kA, 41, .inl rsF))] H := hP
      have hD : va_D A [(a_x, .inr (6, [.ref a_pl, .ref a_lo, .ref a_sh, .long trc])), (a_pl, .inr (3, [.int days, .ref a_tk, .ref a_rs])), (a_tk, tkE tkk tkd tkp tkr tkc), (a_rs, .inl (kA, 41, .inl rsF))] := hD
      rw [hQ]
      exact rt_i () hx hb hr hlocks h hP hD hS dX6_cost_33
    · replace h := h.2 c19
      refine lv_iconst (v := (-1 : Int32)) hx hb dX6_cost_22 (by decide +kernel) ?_
      rw [hQ]
      exact rt_i () hx hb hr hlocks h hP hD hS dX6_cost_23

/-- RentOrBuy.count, kind 0 -/
def rmX6_count_k0 : Room := { frames := 1, cells := 0, slots := 0, locals := 20 }
set_option maxHeartbeats 4000000 in
set_option maxRecDepth 100000 in
theorem c_X6_count_k0 (l : Launch) (dC : Nat → ClassId) (dI : Nat → Nat → Nat) (kA : ClassId) (a_x a_pl a_tk a_sh a_lo a_rs a_ak a_os a_le : Nat) (sz : Nat) (trc : Int64) (days : Int32) (tkd : Int32) (tkp : Int32) (thg : Int32) (req : Int32) (ocn : Int32) (p1 : Int32) (K : Int32 → Prop) (hg : g_X6_count_k0 trc days tkd tkp thg req ocn p1 K) : Met l yX6_count wsX6_count rmX6_count_k0 (va_Pc [.ref a_x, .int p1] (prW (dC, dI) kA sz [(a_x, .inr (6, [.ref a_pl, .ref a_lo, .ref a_sh, .long trc])), (a_pl, .inr (3, [.int days, .ref a_tk, .ref a_rs])), (a_tk, .inr (1, [.int tkd, .int tkp])), (a_sh, .inr (5, [.int thg, .int req, .ref a_ak, .int ocn, .ref a_os, .ref a_le]))])) (va_Qi (fun (r : Int32) (u : Unit) => K r) (poW (dC, dI) (va_A [(a_x, .inr (6, [.ref a_pl, .ref a_lo, .ref a_sh, .long trc])), (a_pl, .inr (3, [.int days, .ref a_tk, .ref a_rs])), (a_tk, .inr (1, [.int tkd, .int tkp])), (a_sh, .inr (5, [.int thg, .int req, .ref a_ak, .int ocn, .ref a_os, .ref a_le]))] sz) (fun (u : Unit) => [(a_x, .inr (6, [.ref a_pl, .ref a_lo, .ref a_sh, .long trc])), (a_pl, .inr (3, [.int days, .ref a_tk, .ref a_rs])), (a_tk, .inr (1, [.int tkd, .int tkp])), (a_sh, .inr (5, [.int thg, .int req, .ref a_ak, .int ocn, .ref a_os, .ref a_le]))])) (va_A [(a_x, .inr (6, [.ref a_pl, .ref a_lo, .ref a_sh, .long trc])), (a_pl, .inr (3, [.int days, .ref a_tk, .ref a_rs])), (a_tk, .inr (1, [.int tkd, .int tkp])), (a_sh, .inr (5, [.int thg, .int req, .ref a_ak, .int ocn, .ref a_os, .ref a_le]))] sz)) 0 0 (va_A [(a_x, .inr (6, [.ref a_pl, .ref a_lo, .ref a_sh, .long trc])), (a_pl, .inr (3, [.int days, .ref a_tk, .ref a_rs])), (a_tk, .inr (1, [.int tkd, .int tkp])), (a_sh, .inr (5, [.int thg, .int req, .ref a_ak, .int ocn, .ref a_os, .ref a_le]))] sz) := by
  refine Met.ofW (cc := cX6_count) (maxL := 2) (ret := (some .int)) (by decide) rfl ?_
  intro p e s m args below meth c s₁ B hml hv
  obtain ⟨hargs, hsz, hP, hK, hD0, hN⟩ := hv
  have hx := B.exec
  have hb := B.bytes
  have hr := B.returns
  have hts := atoms_spec (ws := wsX6_count) B.pre
  have hown : s.vm.findClass RX6 = some m.cls := findClass_of_methodNamed B.named
  have hlocks := B.notSynchronized
  subst hsz
  have hD := hD0.self (sz := s.heap.size)
  generalize hAe : va_A [(a_x, .inr (6, [.ref a_pl, .ref a_lo, .ref a_sh, .long trc])), (a_pl, .inr (3, [.int days, .ref a_tk, .ref a_rs])), (a_tk, .inr (1, [.int tkd, .int tkp])), (a_sh, .inr (5, [.int thg, .int req, .ref a_ak, .int ocn, .ref a_os, .ref a_le]))] s.heap.size = A at hD ⊢
  have hA : ∀ q : Nat, s.heap.size ≤ q → A q := fun q h => by rw [← hAe]; exact Or.inr h
  have hS : va_S A s.heap s.heap [] := va_S.rf
  obtain ⟨Q, hQ⟩ : ∃ Q : State → Prop, Q = MQ below (va_Qi (fun (r : Int32) (u : Unit) => K r) (poW (dC, dI) A (fun (u : Unit) => [(a_x, .inr (6, [.ref a_pl, .ref a_lo, .ref a_sh, .long trc])), (a_pl, .inr (3, [.int days, .ref a_tk, .ref a_rs])), (a_tk, .inr (1, [.int tkd, .int tkp])), (a_sh, .inr (5, [.int thg, .int req, .ref a_ak, .int ocn, .ref a_os, .ref a_le]))])) A) args s 0 0 A := ⟨_, rfl⟩
  rw [← hQ]
  have hP : va_P (dC, dI) vwCl [(a_x, .inr (6, [.ref a_pl, .ref a_lo, .ref a_sh, .long trc])), (a_pl, .inr (3, [.int days, .ref a_tk, .ref a_rs])), (a_tk, .inr (1, [.int tkd, .int tkp])), (a_sh, .inr (5, [.int thg, .int req, .ref a_ak, .int ocn, .ref a_os, .ref a_le]))] s.heap := hP
  refine en_ok hargs (Nat.le_of_ble_eq_true rfl) (fun ls hl => ?_)
  have hl : lv_has ls 2 [(0, .ref a_x), (1, .int p1)] := hl
  have h := hg
  unfold g_X6_count_k0 at h
  refine lv_iload_n hx hb dX6_count_0 rfl (lv_at hl 1 rfl) ?_
  by_cases c1_0 : p1 = 0
  · replace h := h.1 c1_0
    refine lv_tableIn (tgt := 32) hx hb dX6_count_1 (by rw [c1_0]; decide) (by rw [c1_0]; decide) (by rw [c1_0]; rfl) (by decide) ?_
    refine lv_aload_n hx hb dX6_count_32 rfl (lv_at hl 0 rfl) ?_
    refine va_get (D := (dC, dI)) (ci := 6) (v := .ref a_pl) (C := RX6) (T := TX6) (N := 4) hx hb hts (fun _ h => List.mem_cons_of_mem _ (List.mem_append_left _ (List.mem_append_left _ (List.mem_append_right _ h)))) hown hK hP 0 rfl rfl 0 (by decide) (hts (.fieldLink RX6 10 "RentOrBuy" "plans" "LRentOrBuy$Plans;") (List.mem_cons_of_mem _ (List.mem_append_left _ (List.mem_append_left _ (List.mem_append_left _ (List.mem_of_getElem? (i := 0) rfl)))))) (fun _ h9 => h9) rfl dX6_count_33 ?_
    refine va_getN (D := (dC, dI)) (ci := 3) (v := .int days) (C := RX3) (T := TX3) (N := 3) hx hb hts (fun _ h => List.mem_cons_of_mem _ (List.mem_append_left _ (List.mem_append_right _ h))) hown hK hP 1 rfl rfl 0 (by decide) (hN.f 1 rfl) (fun _ h9 => h9) rfl dX6_count_36 ?_
    rw [hQ]
    exact rt_i () hx hb hr hlocks h hP hD hS dX6_count_39
  · replace h := h.2 c1_0
    by_cases c1_1 : p1 = 1
    · replace h := h.1 c1_1
      refine lv_tableIn (tgt := 40) hx hb dX6_count_1 (by rw [c1_1]; decide) (by rw [c1_1]; decide) (by rw [c1_1]; rfl) (by decide) ?_
      refine lv_aload_n hx hb dX6_count_40 rfl (lv_at hl 0 rfl) ?_
      refine va_get (D := (dC, dI)) (ci := 6) (v := .ref a_pl) (C := RX6) (T := TX6) (N := 4) hx hb hts (fun _ h => List.mem_cons_of_mem _ (List.mem_append_left _ (List.mem_append_left _ (List.mem_append_right _ h)))) hown hK hP 0 rfl rfl 0 (by decide) (hts (.fieldLink RX6 10 "RentOrBuy" "plans" "LRentOrBuy$Plans;") (List.mem_cons_of_mem _ (List.mem_append_left _ (List.mem_append_left _ (List.mem_append_left _ (List.mem_of_getElem? (i := 0) rfl)))))) (fun _ h9 => h9) rfl dX6_count_41 ?_
      refine va_getN (D := (dC, dI)) (ci := 3) (v := .ref a_tk) (C := RX3) (T := TX3) (N := 3) hx hb hts (fun _ h => List.mem_cons_of_mem _ (List.mem_append_left _ (List.mem_append_right _ h))) hown hK hP 1 rfl rfl 1 (by decide) (hN.f 3 rfl) (fun _ h9 => h9) rfl dX6_count_44 ?_
      have hPc := hP.sub (ws' := [(a_tk, .inr (1, [.int tkd, .int tkp]))]) [2] rfl
      have hDc := hD.sub (ws' := [(a_tk, .inr (1, [.int tkd, .int tkp]))]) [2] (by decide) rfl
      refine fr_i (wr := [(a_x, .inr (6, [.ref a_pl, .ref a_lo, .ref a_sh, .long trc])), (a_pl, .inr (3, [.int days, .ref a_tk, .ref a_rs])), (a_sh, .inr (5, [.int thg, .int req, .ref a_ak, .int ocn, .ref a_os, .ref a_le]))]) (WN := fun (u47 : Unit) => [(a_x, .inr (6, [.ref a_pl, .ref a_lo, .ref a_sh, .long trc])), (a_pl, .inr (3, [.int days, .ref a_tk, .ref a_rs])), (a_tk, .inr (1, [.int tkd, .int tkp])), (a_sh, .inr (5, [.int thg, .int req, .ref a_ak, .int ocn, .ref a_os, .ref a_le]))]) (va_runV (As := []) (rest := []) ⟨hx, hb, hml, hown, hts⟩ (c_X1_kindNumber_k0 l dC dI kA a_tk s.heap.size tkd tkp _ h) (cwV 0 hts gX6_count_X1_kindNumber rfl rfl rfl (by decide +kernel) ⟨Nat.le_of_ble_eq_true rfl, Nat.le_of_ble_eq_true rfl⟩) (prW.preV (ci := 1) (q0 := 0) hPc hDc hK hN rfl rfl) rfl rfl hl.1 rfl (lv_room (Nat.le_of_ble_eq_true rfl)) dX6_count_47 ⟨Nat.le_of_ble_eq_true rfl, Nat.le_of_ble_eq_true rfl⟩) hP hD hS hA [2] [0, 1, 3] rfl rfl (by decide) (by decide) [0, 1, 3, 2] (by decide) (fun _ => rfl) (fun r47 u47 H locs h hP hD hS => ?_)
      have hP : va_P (dC, dI) vwCl [(a_x, .inr (6, [.ref a_pl, .ref a_lo, .ref a_sh, .long trc])), (a_pl, .inr (3, [.int days, .ref a_tk, .ref a_rs])), (a_tk, .inr (1, [.int tkd, .int tkp])), (a_sh, .inr (5, [.int thg, .int req, .ref a_ak, .int ocn, .ref a_os, .ref a_le]))] H := hP
      have hD : va_D A [(a_x, .inr (6, [.ref a_pl, .ref a_lo, .ref a_sh, .long trc])), (a_pl, .inr (3, [.int days, .ref a_tk, .ref a_rs])), (a_tk, .inr (1, [.int tkd, .int tkp])), (a_sh, .inr (5, [.int thg, .int req, .ref a_ak, .int ocn, .ref a_os, .ref a_le]))] := hD
      rw [hQ]
      exact rt_i () hx hb hr hlocks h hP hD hS dX6_count_50
    · replace h := h.2 c1_1
      by_cases c1_2 : p1 = 2
      · replace h := h.1 c1_2
        refine lv_tableIn (tgt := 51) hx hb dX6_count_1 (by rw [c1_2]; decide) (by rw [c1_2]; decide) (by rw [c1_2]; rfl) (by decide) ?_
        refine lv_aload_n hx hb dX6_count_51 rfl (lv_at hl 0 rfl) ?_
        refine va_get (D := (dC, dI)) (ci := 6) (v := .ref a_sh) (C := RX6) (T := TX6) (N := 4) hx hb hts (fun _ h => List.mem_cons_of_mem _ (List.mem_append_left _ (List.mem_append_left _ (List.mem_append_right _ h)))) hown hK hP 0 rfl rfl 2 (by decide) (hts (.fieldLink RX6 26 "RentOrBuy" "shelf" "LRentOrBuy$Shelf;") (List.mem_cons_of_mem _ (List.mem_append_left _ (List.mem_append_left _ (List.mem_append_left _ (List.mem_of_getElem? (i := 1) rfl)))))) (fun _ h9 => h9) rfl dX6_count_52 ?_
        refine va_getN (D := (dC, dI)) (ci := 5) (v := .int thg) (C := RX5) (T := TX5) (N := 6) hx hb hts (fun _ h => List.mem_cons_of_mem _ (List.mem_append_right _ h)) hown hK hP 3 rfl rfl 0 (by decide) (hN.f 6 rfl) (fun _ h9 => h9) rfl dX6_count_55 ?_
        rw [hQ]
        exact rt_i () hx hb hr hlocks h hP hD hS dX6_count_58
      · replace h := h.2 c1_2
        by_cases c1_3 : p1 = 3
        · replace h := h.1 c1_3
          refine lv_tableIn (tgt := 59) hx hb dX6_count_1 (by rw [c1_3]; decide) (by rw [c1_3]; decide) (by rw [c1_3]; rfl) (by decide) ?_
          refine lv_aload_n hx hb dX6_count_59 rfl (lv_at hl 0 rfl) ?_
          refine va_get (D := (dC, dI)) (ci := 6) (v := .ref a_sh) (C := RX6) (T := TX6) (N := 4) hx hb hts (fun _ h => List.mem_cons_of_mem _ (List.mem_append_left _ (List.mem_append_left _ (List.mem_append_right _ h)))) hown hK hP 0 rfl rfl 2 (by decide) (hts (.fieldLink RX6 26 "RentOrBuy" "shelf" "LRentOrBuy$Shelf;") (List.mem_cons_of_mem _ (List.mem_append_left _ (List.mem_append_left _ (List.mem_append_left _ (List.mem_of_getElem? (i := 1) rfl)))))) (fun _ h9 => h9) rfl dX6_count_60 ?_
          refine va_getN (D := (dC, dI)) (ci := 5) (v := .int req) (C := RX5) (T := TX5) (N := 6) hx hb hts (fun _ h => List.mem_cons_of_mem _ (List.mem_append_right _ h)) hown hK hP 3 rfl rfl 1 (by decide) (hN.f 7 rfl) (fun _ h9 => h9) rfl dX6_count_63 ?_
          rw [hQ]
          exact rt_i () hx hb hr hlocks h hP hD hS dX6_count_66
        · replace h := h.2 c1_3
          refine lv_tableOut (tgt := 67) hx hb dX6_count_1 (ix4_out c1_0 c1_1 c1_2 c1_3) (by decide) ?_
          refine lv_iconst (v := (-1 : Int32)) hx hb dX6_count_67 (by decide +kernel) ?_
          rw [hQ]
          exact rt_i () hx hb hr hlocks h hP hD hS dX6_count_68

/-- RentOrBuy.count, kind 1 -/
def rmX6_count_k1 : Room := { frames := 1, cells := 0, slots := 0, locals := 20 }
set_option maxHeartbeats 4000000 in
set_option maxRecDepth 100000 in
theorem c_X6_count_k1 (l : Launch) (dC : Nat → ClassId) (dI : Nat → Nat → Nat) (kA : ClassId) (a_x a_pl a_tk a_sh a_lo a_rs a_ak a_os a_le : Nat) (sz : Nat) (trc : Int64) (days : Int32) (tkd : Int32) (tkp : Int32) (tkr : Int32) (thg : Int32) (req : Int32) (ocn : Int32) (p1 : Int32) (K : Int32 → Prop) (hg : g_X6_count_k1 trc days tkd tkp tkr thg req ocn p1 K) : Met l yX6_count wsX6_count rmX6_count_k1 (va_Pc [.ref a_x, .int p1] (prW (dC, dI) kA sz [(a_x, .inr (6, [.ref a_pl, .ref a_lo, .ref a_sh, .long trc])), (a_pl, .inr (3, [.int days, .ref a_tk, .ref a_rs])), (a_tk, .inr (4, [.int tkd, .int tkp, .int tkr])), (a_sh, .inr (5, [.int thg, .int req, .ref a_ak, .int ocn, .ref a_os, .ref a_le]))])) (va_Qi (fun (r : Int32) (u : Unit) => K r) (poW (dC, dI) (va_A [(a_x, .inr (6, [.ref a_pl, .ref a_lo, .ref a_sh, .long trc])), (a_pl, .inr (3, [.int days, .ref a_tk, .ref a_rs])), (a_tk, .inr (4, [.int tkd, .int tkp, .int tkr])), (a_sh, .inr (5, [.int thg, .int req, .ref a_ak, .int ocn, .ref a_os, .ref a_le]))] sz) (fun (u : Unit) => [(a_x, .inr (6, [.ref a_pl, .ref a_lo, .ref a_sh, .long trc])), (a_pl, .inr (3, [.int days, .ref a_tk, .ref a_rs])), (a_tk, .inr (4, [.int tkd, .int tkp, .int tkr])), (a_sh, .inr (5, [.int thg, .int req, .ref a_ak, .int ocn, .ref a_os, .ref a_le]))])) (va_A [(a_x, .inr (6, [.ref a_pl, .ref a_lo, .ref a_sh, .long trc])), (a_pl, .inr (3, [.int days, .ref a_tk, .ref a_rs])), (a_tk, .inr (4, [.int tkd, .int tkp, .int tkr])), (a_sh, .inr (5, [.int thg, .int req, .ref a_ak, .int ocn, .ref a_os, .ref a_le]))] sz)) 0 0 (va_A [(a_x, .inr (6, [.ref a_pl, .ref a_lo, .ref a_sh, .long trc])), (a_pl, .inr (3, [.int days, .ref a_tk, .ref a_rs])), (a_tk, .inr (4, [.int tkd, .int tkp, .int tkr])), (a_sh, .inr (5, [.int thg, .int req, .ref a_ak, .int ocn, .ref a_os, .ref a_le]))] sz) := by
  refine Met.ofW (cc := cX6_count) (maxL := 2) (ret := (some .int)) (by decide) rfl ?_
  intro p e s m args below meth c s₁ B hml hv
  obtain ⟨hargs, hsz, hP, hK, hD0, hN⟩ := hv
  have hx := B.exec
  have hb := B.bytes
  have hr := B.returns
  have hts := atoms_spec (ws := wsX6_count) B.pre
  have hown : s.vm.findClass RX6 = some m.cls := findClass_of_methodNamed B.named
  have hlocks := B.notSynchronized
  subst hsz
  have hD := hD0.self (sz := s.heap.size)
  generalize hAe : va_A [(a_x, .inr (6, [.ref a_pl, .ref a_lo, .ref a_sh, .long trc])), (a_pl, .inr (3, [.int days, .ref a_tk, .ref a_rs])), (a_tk, .inr (4, [.int tkd, .int tkp, .int tkr])), (a_sh, .inr (5, [.int thg, .int req, .ref a_ak, .int ocn, .ref a_os, .ref a_le]))] s.heap.size = A at hD ⊢
  have hA : ∀ q : Nat, s.heap.size ≤ q → A q := fun q h => by rw [← hAe]; exact Or.inr h
  have hS : va_S A s.heap s.heap [] := va_S.rf
  obtain ⟨Q, hQ⟩ : ∃ Q : State → Prop, Q = MQ below (va_Qi (fun (r : Int32) (u : Unit) => K r) (poW (dC, dI) A (fun (u : Unit) => [(a_x, .inr (6, [.ref a_pl, .ref a_lo, .ref a_sh, .long trc])), (a_pl, .inr (3, [.int days, .ref a_tk, .ref a_rs])), (a_tk, .inr (4, [.int tkd, .int tkp, .int tkr])), (a_sh, .inr (5, [.int thg, .int req, .ref a_ak, .int ocn, .ref a_os, .ref a_le]))])) A) args s 0 0 A := ⟨_, rfl⟩
  rw [← hQ]
  have hP : va_P (dC, dI) vwCl [(a_x, .inr (6, [.ref a_pl, .ref a_lo, .ref a_sh, .long trc])), (a_pl, .inr (3, [.int days, .ref a_tk, .ref a_rs])), (a_tk, .inr (4, [.int tkd, .int tkp, .int tkr])), (a_sh, .inr (5, [.int thg, .int req, .ref a_ak, .int ocn, .ref a_os, .ref a_le]))] s.heap := hP
  refine en_ok hargs (Nat.le_of_ble_eq_true rfl) (fun ls hl => ?_)
  have hl : lv_has ls 2 [(0, .ref a_x), (1, .int p1)] := hl
  have h := hg
  unfold g_X6_count_k1 at h
  refine lv_iload_n hx hb dX6_count_0 rfl (lv_at hl 1 rfl) ?_
  by_cases c1_0 : p1 = 0
  · replace h := h.1 c1_0
    refine lv_tableIn (tgt := 32) hx hb dX6_count_1 (by rw [c1_0]; decide) (by rw [c1_0]; decide) (by rw [c1_0]; rfl) (by decide) ?_
    refine lv_aload_n hx hb dX6_count_32 rfl (lv_at hl 0 rfl) ?_
    refine va_get (D := (dC, dI)) (ci := 6) (v := .ref a_pl) (C := RX6) (T := TX6) (N := 4) hx hb hts (fun _ h => List.mem_cons_of_mem _ (List.mem_append_left _ (List.mem_append_left _ (List.mem_append_right _ h)))) hown hK hP 0 rfl rfl 0 (by decide) (hts (.fieldLink RX6 10 "RentOrBuy" "plans" "LRentOrBuy$Plans;") (List.mem_cons_of_mem _ (List.mem_append_left _ (List.mem_append_left _ (List.mem_append_left _ (List.mem_of_getElem? (i := 0) rfl)))))) (fun _ h9 => h9) rfl dX6_count_33 ?_
    refine va_getN (D := (dC, dI)) (ci := 3) (v := .int days) (C := RX3) (T := TX3) (N := 3) hx hb hts (fun _ h => List.mem_cons_of_mem _ (List.mem_append_left _ (List.mem_append_right _ h))) hown hK hP 1 rfl rfl 0 (by decide) (hN.f 1 rfl) (fun _ h9 => h9) rfl dX6_count_36 ?_
    rw [hQ]
    exact rt_i () hx hb hr hlocks h hP hD hS dX6_count_39
  · replace h := h.2 c1_0
    by_cases c1_1 : p1 = 1
    · replace h := h.1 c1_1
      refine lv_tableIn (tgt := 40) hx hb dX6_count_1 (by rw [c1_1]; decide) (by rw [c1_1]; decide) (by rw [c1_1]; rfl) (by decide) ?_
      refine lv_aload_n hx hb dX6_count_40 rfl (lv_at hl 0 rfl) ?_
      refine va_get (D := (dC, dI)) (ci := 6) (v := .ref a_pl) (C := RX6) (T := TX6) (N := 4) hx hb hts (fun _ h => List.mem_cons_of_mem _ (List.mem_append_left _ (List.mem_append_left _ (List.mem_append_right _ h)))) hown hK hP 0 rfl rfl 0 (by decide) (hts (.fieldLink RX6 10 "RentOrBuy" "plans" "LRentOrBuy$Plans;") (List.mem_cons_of_mem _ (List.mem_append_left _ (List.mem_append_left _ (List.mem_append_left _ (List.mem_of_getElem? (i := 0) rfl)))))) (fun _ h9 => h9) rfl dX6_count_41 ?_
      refine va_getN (D := (dC, dI)) (ci := 3) (v := .ref a_tk) (C := RX3) (T := TX3) (N := 3) hx hb hts (fun _ h => List.mem_cons_of_mem _ (List.mem_append_left _ (List.mem_append_right _ h))) hown hK hP 1 rfl rfl 1 (by decide) (hN.f 3 rfl) (fun _ h9 => h9) rfl dX6_count_44 ?_
      have hPc := hP.sub (ws' := [(a_tk, .inr (4, [.int tkd, .int tkp, .int tkr]))]) [2] rfl
      have hDc := hD.sub (ws' := [(a_tk, .inr (4, [.int tkd, .int tkp, .int tkr]))]) [2] (by decide) rfl
      refine fr_i (wr := [(a_x, .inr (6, [.ref a_pl, .ref a_lo, .ref a_sh, .long trc])), (a_pl, .inr (3, [.int days, .ref a_tk, .ref a_rs])), (a_sh, .inr (5, [.int thg, .int req, .ref a_ak, .int ocn, .ref a_os, .ref a_le]))]) (WN := fun (u47 : Unit) => [(a_x, .inr (6, [.ref a_pl, .ref a_lo, .ref a_sh, .long trc])), (a_pl, .inr (3, [.int days, .ref a_tk, .ref a_rs])), (a_tk, .inr (4, [.int tkd, .int tkp, .int tkr])), (a_sh, .inr (5, [.int thg, .int req, .ref a_ak, .int ocn, .ref a_os, .ref a_le]))]) (va_runU (As := []) (rest := []) ⟨hx, hb, hml, hown, hts⟩ (c_X4_kindNumber_k1 l dC dI kA a_tk s.heap.size tkd tkp tkr _ h) (va_cwO 0 hts gX6_count_X4_kindNumber_u170X4 rfl rfl rfl (List.mem_cons_of_mem _ (List.mem_append_left _ (List.mem_append_left _ (List.mem_append_left _ (List.mem_of_getElem? (i := 9) rfl))))) (by decide +kernel) ⟨Nat.le_of_ble_eq_true rfl, Nat.le_of_ble_eq_true rfl⟩) (prW.preV (ci := 4) (q0 := 0) hPc hDc hK hN rfl rfl) rfl rfl hl.1 rfl (lv_room (Nat.le_of_ble_eq_true rfl)) dX6_count_47 ⟨Nat.le_of_ble_eq_true rfl, Nat.le_of_ble_eq_true rfl⟩) hP hD hS hA [2] [0, 1, 3] rfl rfl (by decide) (by decide) [0, 1, 3, 2] (by decide) (fun _ => rfl) (fun r47 u47 H locs h hP hD hS => ?_)
      have hP : va_P (dC, dI) vwCl [(a_x, .inr (6, [.ref a_pl, .ref a_lo, .ref a_sh, .long trc])), (a_pl, .inr (3, [.int days, .ref a_tk, .ref a_rs])), (a_tk, .inr (4, [.int tkd, .int tkp, .int tkr])), (a_sh, .inr (5, [.int thg, .int req, .ref a_ak, .int ocn, .ref a_os, .ref a_le]))] H := hP
      have hD : va_D A [(a_x, .inr (6, [.ref a_pl, .ref a_lo, .ref a_sh, .long trc])), (a_pl, .inr (3, [.int days, .ref a_tk, .ref a_rs])), (a_tk, .inr (4, [.int tkd, .int tkp, .int tkr])), (a_sh, .inr (5, [.int thg, .int req, .ref a_ak, .int ocn, .ref a_os, .ref a_le]))] := hD
      rw [hQ]
      exact rt_i () hx hb hr hlocks h hP hD hS dX6_count_50
    · replace h := h.2 c1_1
      by_cases c1_2 : p1 = 2
      · replace h := h.1 c1_2
        refine lv_tableIn (tgt := 51) hx hb dX6_count_1 (by rw [c1_2]; decide) (by rw [c1_2]; decide) (by rw [c1_2]; rfl) (by decide) ?_
        refine lv_aload_n hx hb dX6_count_51 rfl (lv_at hl 0 rfl) ?_
        refine va_get (D := (dC, dI)) (ci := 6) (v := .ref a_sh) (C := RX6) (T := TX6) (N := 4) hx hb hts (fun _ h => List.mem_cons_of_mem _ (List.mem_append_left _ (List.mem_append_left _ (List.mem_append_right _ h)))) hown hK hP 0 rfl rfl 2 (by decide) (hts (.fieldLink RX6 26 "RentOrBuy" "shelf" "LRentOrBuy$Shelf;") (List.mem_cons_of_mem _ (List.mem_append_left _ (List.mem_append_left _ (List.mem_append_left _ (List.mem_of_getElem? (i := 1) rfl)))))) (fun _ h9 => h9) rfl dX6_count_52 ?_
        refine va_getN (D := (dC, dI)) (ci := 5) (v := .int thg) (C := RX5) (T := TX5) (N := 6) hx hb hts (fun _ h => List.mem_cons_of_mem _ (List.mem_append_right _ h)) hown hK hP 3 rfl rfl 0 (by decide) (hN.f 6 rfl) (fun _ h9 => h9) rfl dX6_count_55 ?_
        rw [hQ]
        exact rt_i () hx hb hr hlocks h hP hD hS dX6_count_58
      · replace h := h.2 c1_2
        by_cases c1_3 : p1 = 3
        · replace h := h.1 c1_3
          refine lv_tableIn (tgt := 59) hx hb dX6_count_1 (by rw [c1_3]; decide) (by rw [c1_3]; decide) (by rw [c1_3]; rfl) (by decide) ?_
          refine lv_aload_n hx hb dX6_count_59 rfl (lv_at hl 0 rfl) ?_
          refine va_get (D := (dC, dI)) (ci := 6) (v := .ref a_sh) (C := RX6) (T := TX6) (N := 4) hx hb hts (fun _ h => List.mem_cons_of_mem _ (List.mem_append_left _ (List.mem_append_left _ (List.mem_append_right _ h)))) hown hK hP 0 rfl rfl 2 (by decide) (hts (.fieldLink RX6 26 "RentOrBuy" "shelf" "LRentOrBuy$Shelf;") (List.mem_cons_of_mem _ (List.mem_append_left _ (List.mem_append_left _ (List.mem_append_left _ (List.mem_of_getElem? (i := 1) rfl)))))) (fun _ h9 => h9) rfl dX6_count_60 ?_
          refine va_getN (D := (dC, dI)) (ci := 5) (v := .int req) (C := RX5) (T := TX5) (N := 6) hx hb hts (fun _ h => List.mem_cons_of_mem _ (List.mem_append_right _ h)) hown hK hP 3 rfl rfl 1 (by decide) (hN.f 7 rfl) (fun _ h9 => h9) rfl dX6_count_63 ?_
          rw [hQ]
          exact rt_i () hx hb hr hlocks h hP hD hS dX6_count_66
        · replace h := h.2 c1_3
          refine lv_tableOut (tgt := 67) hx hb dX6_count_1 (ix4_out c1_0 c1_1 c1_2 c1_3) (by decide) ?_
          refine lv_iconst (v := (-1 : Int32)) hx hb dX6_count_67 (by decide +kernel) ?_
          rw [hQ]
          exact rt_i () hx hb hr hlocks h hP hD hS dX6_count_68

/-- RentOrBuy.count, kind 2 -/
def rmX6_count_k2 : Room := { frames := 1, cells := 0, slots := 0, locals := 20 }
set_option maxHeartbeats 4000000 in
set_option maxRecDepth 100000 in
theorem c_X6_count_k2 (l : Launch) (dC : Nat → ClassId) (dI : Nat → Nat → Nat) (kA : ClassId) (a_x a_pl a_tk a_sh a_lo a_rs a_ak a_os a_le : Nat) (sz : Nat) (trc : Int64) (days : Int32) (tkr : Int32) (tkd : Int32) (tkp : Int32) (tkc : Int32) (thg : Int32) (req : Int32) (ocn : Int32) (p1 : Int32) (K : Int32 → Prop) (hg : g_X6_count_k2 trc days tkr tkd tkp tkc thg req ocn p1 K) : Met l yX6_count wsX6_count rmX6_count_k2 (va_Pc [.ref a_x, .int p1] (prW (dC, dI) kA sz [(a_x, .inr (6, [.ref a_pl, .ref a_lo, .ref a_sh, .long trc])), (a_pl, .inr (3, [.int days, .ref a_tk, .ref a_rs])), (a_tk, .inr (0, [.int tkr, .int tkd, .int tkp, .int tkc])), (a_sh, .inr (5, [.int thg, .int req, .ref a_ak, .int ocn, .ref a_os, .ref a_le]))])) (va_Qi (fun (r : Int32) (u : Unit) => K r) (poW (dC, dI) (va_A [(a_x, .inr (6, [.ref a_pl, .ref a_lo, .ref a_sh, .long trc])), (a_pl, .inr (3, [.int days, .ref a_tk, .ref a_rs])), (a_tk, .inr (0, [.int tkr, .int tkd, .int tkp, .int tkc])), (a_sh, .inr (5, [.int thg, .int req, .ref a_ak, .int ocn, .ref a_os, .ref a_le]))] sz) (fun (u : Unit) => [(a_x, .inr (6, [.ref a_pl, .ref a_lo, .ref a_sh, .long trc])), (a_pl, .inr (3, [.int days, .ref a_tk, .ref a_rs])), (a_tk, .inr (0, [.int tkr, .int tkd, .int tkp, .int tkc])), (a_sh, .inr (5, [.int thg, .int req, .ref a_ak, .int ocn, .ref a_os, .ref a_le]))])) (va_A [(a_x, .inr (6, [.ref a_pl, .ref a_lo, .ref a_sh, .long trc])), (a_pl, .inr (3, [.int days, .ref a_tk, .ref a_rs])), (a_tk, .inr (0, [.int tkr, .int tkd, .int tkp, .int tkc])), (a_sh, .inr (5, [.int thg, .int req, .ref a_ak, .int ocn, .ref a_os, .ref a_le]))] sz)) 0 0 (va_A [(a_x, .inr (6, [.ref a_pl, .ref a_lo, .ref a_sh, .long trc])), (a_pl, .inr (3, [.int days, .ref a_tk, .ref a_rs])), (a_tk, .inr (0, [.int tkr, .int tkd, .int tkp, .int tkc])), (a_sh, .inr (5, [.int thg, .int req, .ref a_ak, .int ocn, .ref a_os, .ref a_le]))] sz) := by
  refine Met.ofW (cc := cX6_count) (maxL := 2) (ret := (some .int)) (by decide) rfl ?_
  intro p e s m args below meth c s₁ B hml hv
  obtain ⟨hargs, hsz, hP, hK, hD0, hN⟩ := hv
  have hx := B.exec
  have hb := B.bytes
  have hr := B.returns
  have hts := atoms_spec (ws := wsX6_count) B.pre
  have hown : s.vm.findClass RX6 = some m.cls := findClass_of_methodNamed B.named
  have hlocks := B.notSynchronized
  subst hsz
  have hD := hD0.self (sz := s.heap.size)
  generalize hAe : va_A [(a_x, .inr (6, [.ref a_pl, .ref a_lo, .ref a_sh, .long trc])), (a_pl, .inr (3, [.int days, .ref a_tk, .ref a_rs])), (a_tk, .inr (0, [.int tkr, .int tkd, .int tkp, .int tkc])), (a_sh, .inr (5, [.int thg, .int req, .ref a_ak, .int ocn, .ref a_os, .ref a_le]))] s.heap.size = A at hD ⊢
  have hA : ∀ q : Nat, s.heap.size ≤ q → A q := fun q h => by rw [← hAe]; exact Or.inr h
  have hS : va_S A s.heap s.heap [] := va_S.rf
  obtain ⟨Q, hQ⟩ : ∃ Q : State → Prop, Q = MQ below (va_Qi (fun (r : Int32) (u : Unit) => K r) (poW (dC, dI) A (fun (u : Unit) => [(a_x, .inr (6, [.ref a_pl, .ref a_lo, .ref a_sh, .long trc])), (a_pl, .inr (3, [.int days, .ref a_tk, .ref a_rs])), (a_tk, .inr (0, [.int tkr, .int tkd, .int tkp, .int tkc])), (a_sh, .inr (5, [.int thg, .int req, .ref a_ak, .int ocn, .ref a_os, .ref a_le]))])) A) args s 0 0 A := ⟨_, rfl⟩
  rw [← hQ]
  have hP : va_P (dC, dI) vwCl [(a_x, .inr (6, [.ref a_pl, .ref a_lo, .ref a_sh, .long trc])), (a_pl, .inr (3, [.int days, .ref a_tk, .ref a_rs])), (a_tk, .inr (0, [.int tkr, .int tkd, .int tkp, .int tkc])), (a_sh, .inr (5, [.int thg, .int req, .ref a_ak, .int ocn, .ref a_os, .ref a_le]))] s.heap := hP
  refine en_ok hargs (Nat.le_of_ble_eq_true rfl) (fun ls hl => ?_)
  have hl : lv_has ls 2 [(0, .ref a_x), (1, .int p1)] := hl
  have h := hg
  unfold g_X6_count_k2 at h
  refine lv_iload_n hx hb dX6_count_0 rfl (lv_at hl 1 rfl) ?_
  by_cases c1_0 : p1 = 0
  · replace h := h.1 c1_0
    refine lv_tableIn (tgt := 32) hx hb dX6_count_1 (by rw [c1_0]; decide) (by rw [c1_0]; decide) (by rw [c1_0]; rfl) (by decide) ?_
    refine lv_aload_n hx hb dX6_count_32 rfl (lv_at hl 0 rfl) ?_
    refine va_get (D := (dC, dI)) (ci := 6) (v := .ref a_pl) (C := RX6) (T := TX6) (N := 4) hx hb hts (fun _ h => List.mem_cons_of_mem _ (List.mem_append_left _ (List.mem_append_left _ (List.mem_append_right _ h)))) hown hK hP 0 rfl rfl 0 (by decide) (hts (.fieldLink RX6 10 "RentOrBuy" "plans" "LRentOrBuy$Plans;") (List.mem_cons_of_mem _ (List.mem_append_left _ (List.mem_append_left _ (List.mem_append_left _ (List.mem_of_getElem? (i := 0) rfl)))))) (fun _ h9 => h9) rfl dX6_count_33 ?_
    refine va_getN (D := (dC, dI)) (ci := 3) (v := .int days) (C := RX3) (T := TX3) (N := 3) hx hb hts (fun _ h => List.mem_cons_of_mem _ (List.mem_append_left _ (List.mem_append_right _ h))) hown hK hP 1 rfl rfl 0 (by decide) (hN.f 1 rfl) (fun _ h9 => h9) rfl dX6_count_36 ?_
    rw [hQ]
    exact rt_i () hx hb hr hlocks h hP hD hS dX6_count_39
  · replace h := h.2 c1_0
    by_cases c1_1 : p1 = 1
    · replace h := h.1 c1_1
      refine lv_tableIn (tgt := 40) hx hb dX6_count_1 (by rw [c1_1]; decide) (by rw [c1_1]; decide) (by rw [c1_1]; rfl) (by decide) ?_
      refine lv_aload_n hx hb dX6_count_40 rfl (lv_at hl 0 rfl) ?_
      refine va_get (D := (dC, dI)) (ci := 6) (v := .ref a_pl) (C := RX6) (T := TX6) (N := 4) hx hb hts (fun _ h => List.mem_cons_of_mem _ (List.mem_append_left _ (List.mem_append_left _ (List.mem_append_right _ h)))) hown hK hP 0 rfl rfl 0 (by decide) (hts (.fieldLink RX6 10 "RentOrBuy" "plans" "LRentOrBuy$Plans;") (List.mem_cons_of_mem _ (List.mem_append_left _ (List.mem_append_left _ (List.mem_append_left _ (List.mem_of_getElem? (i := 0) rfl)))))) (fun _ h9 => h9) rfl dX6_count_41 ?_
      refine va_getN (D := (dC, dI)) (ci := 3) (v := .ref a_tk) (C := RX3) (T := TX3) (N := 3) hx hb hts (fun _ h => List.mem_cons_of_mem _ (List.mem_append_left _ (List.mem_append_right _ h))) hown hK hP 1 rfl rfl 1 (by decide) (hN.f 3 rfl) (fun _ h9 => h9) rfl dX6_count_44 ?_
      have hPc := hP.sub (ws' := [(a_tk, .inr (0, [.int tkr, .int tkd, .int tkp, .int tkc]))]) [2] rfl
      have hDc := hD.sub (ws' := [(a_tk, .inr (0, [.int tkr, .int tkd, .int tkp, .int tkc]))]) [2] (by decide) rfl
      refine fr_i (wr := [(a_x, .inr (6, [.ref a_pl, .ref a_lo, .ref a_sh, .long trc])), (a_pl, .inr (3, [.int days, .ref a_tk, .ref a_rs])), (a_sh, .inr (5, [.int thg, .int req, .ref a_ak, .int ocn, .ref a_os, .ref a_le]))]) (WN := fun (u47 : Unit) => [(a_x, .inr (6, [.ref a_pl, .ref a_lo, .ref a_sh, .long trc])), (a_pl, .inr (3, [.int days, .ref a_tk, .ref a_rs])), (a_tk, .inr (0, [.int tkr, .int tkd, .int tkp, .int tkc])), (a_sh, .inr (5, [.int thg, .int req, .ref a_ak, .int ocn, .ref a_os, .ref a_le]))]) (va_runU (As := []) (rest := []) ⟨hx, hb, hml, hown, hts⟩ (c_X0_kindNumber_k2 l dC dI kA a_tk s.heap.size tkr tkd tkp tkc _ h) (va_cwO 0 hts gX6_count_X0_kindNumber_u170X0 rfl rfl rfl (List.mem_cons_of_mem _ (List.mem_append_left _ (List.mem_append_left _ (List.mem_append_left _ (List.mem_of_getElem? (i := 9) rfl))))) (by decide +kernel) ⟨Nat.le_of_ble_eq_true rfl, Nat.le_of_ble_eq_true rfl⟩) (prW.preV (ci := 0) (q0 := 0) hPc hDc hK hN rfl rfl) rfl rfl hl.1 rfl (lv_room (Nat.le_of_ble_eq_true rfl)) dX6_count_47 ⟨Nat.le_of_ble_eq_true rfl, Nat.le_of_ble_eq_true rfl⟩) hP hD hS hA [2] [0, 1, 3] rfl rfl (by decide) (by decide) [0, 1, 3, 2] (by decide) (fun _ => rfl) (fun r47 u47 H locs h hP hD hS => ?_)
      have hP : va_P (dC, dI) vwCl [(a_x, .inr (6, [.ref a_pl, .ref a_lo, .ref a_sh, .long trc])), (a_pl, .inr (3, [.int days, .ref a_tk, .ref a_rs])), (a_tk, .inr (0, [.int tkr, .int tkd, .int tkp, .int tkc])), (a_sh, .inr (5, [.int thg, .int req, .ref a_ak, .int ocn, .ref a_os, .ref a_le]))] H := hP
      have hD : va_D A [(a_x, .inr (6, [.ref a_pl, .ref a_lo, .ref a_sh, .long trc])), (a_pl, .inr (3, [.int days, .ref a_tk, .ref a_rs])), (a_tk, .inr (0, [.int tkr, .int tkd, .int tkp, .int tkc])), (a_sh, .inr (5, [.int thg, .int req, .ref a_ak, .int ocn, .ref a_os, .ref a_le]))] := hD
      rw [hQ]
      exact rt_i () hx hb hr hlocks h hP hD hS dX6_count_50
    · replace h := h.2 c1_1
      by_cases c1_2 : p1 = 2
      · replace h := h.1 c1_2
        refine lv_tableIn (tgt := 51) hx hb dX6_count_1 (by rw [c1_2]; decide) (by rw [c1_2]; decide) (by rw [c1_2]; rfl) (by decide) ?_
        refine lv_aload_n hx hb dX6_count_51 rfl (lv_at hl 0 rfl) ?_
        refine va_get (D := (dC, dI)) (ci := 6) (v := .ref a_sh) (C := RX6) (T := TX6) (N := 4) hx hb hts (fun _ h => List.mem_cons_of_mem _ (List.mem_append_left _ (List.mem_append_left _ (List.mem_append_right _ h)))) hown hK hP 0 rfl rfl 2 (by decide) (hts (.fieldLink RX6 26 "RentOrBuy" "shelf" "LRentOrBuy$Shelf;") (List.mem_cons_of_mem _ (List.mem_append_left _ (List.mem_append_left _ (List.mem_append_left _ (List.mem_of_getElem? (i := 1) rfl)))))) (fun _ h9 => h9) rfl dX6_count_52 ?_
        refine va_getN (D := (dC, dI)) (ci := 5) (v := .int thg) (C := RX5) (T := TX5) (N := 6) hx hb hts (fun _ h => List.mem_cons_of_mem _ (List.mem_append_right _ h)) hown hK hP 3 rfl rfl 0 (by decide) (hN.f 6 rfl) (fun _ h9 => h9) rfl dX6_count_55 ?_
        rw [hQ]
        exact rt_i () hx hb hr hlocks h hP hD hS dX6_count_58
      · replace h := h.2 c1_2
        by_cases c1_3 : p1 = 3
        · replace h := h.1 c1_3
          refine lv_tableIn (tgt := 59) hx hb dX6_count_1 (by rw [c1_3]; decide) (by rw [c1_3]; decide) (by rw [c1_3]; rfl) (by decide) ?_
          refine lv_aload_n hx hb dX6_count_59 rfl (lv_at hl 0 rfl) ?_
          refine va_get (D := (dC, dI)) (ci := 6) (v := .ref a_sh) (C := RX6) (T := TX6) (N := 4) hx hb hts (fun _ h => List.mem_cons_of_mem _ (List.mem_append_left _ (List.mem_append_left _ (List.mem_append_right _ h)))) hown hK hP 0 rfl rfl 2 (by decide) (hts (.fieldLink RX6 26 "RentOrBuy" "shelf" "LRentOrBuy$Shelf;") (List.mem_cons_of_mem _ (List.mem_append_left _ (List.mem_append_left _ (List.mem_append_left _ (List.mem_of_getElem? (i := 1) rfl)))))) (fun _ h9 => h9) rfl dX6_count_60 ?_
          refine va_getN (D := (dC, dI)) (ci := 5) (v := .int req) (C := RX5) (T := TX5) (N := 6) hx hb hts (fun _ h => List.mem_cons_of_mem _ (List.mem_append_right _ h)) hown hK hP 3 rfl rfl 1 (by decide) (hN.f 7 rfl) (fun _ h9 => h9) rfl dX6_count_63 ?_
          rw [hQ]
          exact rt_i () hx hb hr hlocks h hP hD hS dX6_count_66
        · replace h := h.2 c1_3
          refine lv_tableOut (tgt := 67) hx hb dX6_count_1 (ix4_out c1_0 c1_1 c1_2 c1_3) (by decide) ?_
          refine lv_iconst (v := (-1 : Int32)) hx hb dX6_count_67 (by decide +kernel) ?_
          rw [hQ]
          exact rt_i () hx hb hr hlocks h hP hD hS dX6_count_68

/-- RentOrBuy.drop -/
def rmX6_drop : Room := { frames := 0, cells := 0, slots := 0, locals := 0 }
set_option maxHeartbeats 4000000 in
set_option maxRecDepth 100000 in
theorem c_X6_drop (l : Launch) (dC : Nat → ClassId) (dI : Nat → Nat → Nat) (kA : ClassId) (a_x a_sh a_pl a_lo a_ak a_os a_le : Nat) (sz : Nat) (trc : Int64) (thg : Int32) (req : Int32) (ocn : Int32) (K : Int32 → Int32 → Prop) (hg : g_X6_drop trc thg req ocn K) : Met l yX6_drop wsX6_drop rmX6_drop (va_Pc [.ref a_x] (prW (dC, dI) kA sz [(a_x, .inr (6, [.ref a_pl, .ref a_lo, .ref a_sh, .long trc])), (a_sh, .inr (5, [.int thg, .int req, .ref a_ak, .int ocn, .ref a_os, .ref a_le]))])) (va_Qi (fun (r : Int32) (u : Int32) => K r u) (poW (dC, dI) (va_A [(a_x, .inr (6, [.ref a_pl, .ref a_lo, .ref a_sh, .long trc])), (a_sh, .inr (5, [.int thg, .int req, .ref a_ak, .int ocn, .ref a_os, .ref a_le]))] sz) (fun (u : Int32) => [(a_x, .inr (6, [.ref a_pl, .ref a_lo, .ref a_sh, .long trc])), (a_sh, .inr (5, [.int thg, .int u, .ref a_ak, .int ocn, .ref a_os, .ref a_le]))])) (va_A [(a_x, .inr (6, [.ref a_pl, .ref a_lo, .ref a_sh, .long trc])), (a_sh, .inr (5, [.int thg, .int req, .ref a_ak, .int ocn, .ref a_os, .ref a_le]))] sz)) 0 0 (va_A [(a_x, .inr (6, [.ref a_pl, .ref a_lo, .ref a_sh, .long trc])), (a_sh, .inr (5, [.int thg, .int req, .ref a_ak, .int ocn, .ref a_os, .ref a_le]))] sz) := by
  refine Met.ofW (cc := cX6_drop) (maxL := 1) (ret := (some .int)) (by decide) rfl ?_
  intro p e s m args below meth c s₁ B hml hv
  obtain ⟨hargs, hsz, hP, hK, hD0, hN⟩ := hv
  have hx := B.exec
  have hb := B.bytes
  have hr := B.returns
  have hts := atoms_spec (ws := wsX6_drop) B.pre
  have hown : s.vm.findClass RX6 = some m.cls := findClass_of_methodNamed B.named
  have hlocks := B.notSynchronized
  subst hsz
  have hD := hD0.self (sz := s.heap.size)
  generalize hAe : va_A [(a_x, .inr (6, [.ref a_pl, .ref a_lo, .ref a_sh, .long trc])), (a_sh, .inr (5, [.int thg, .int req, .ref a_ak, .int ocn, .ref a_os, .ref a_le]))] s.heap.size = A at hD ⊢
  have hA : ∀ q : Nat, s.heap.size ≤ q → A q := fun q h => by rw [← hAe]; exact Or.inr h
  have hS : va_S A s.heap s.heap [] := va_S.rf
  obtain ⟨Q, hQ⟩ : ∃ Q : State → Prop, Q = MQ below (va_Qi (fun (r : Int32) (u : Int32) => K r u) (poW (dC, dI) A (fun (u : Int32) => [(a_x, .inr (6, [.ref a_pl, .ref a_lo, .ref a_sh, .long trc])), (a_sh, .inr (5, [.int thg, .int u, .ref a_ak, .int ocn, .ref a_os, .ref a_le]))])) A) args s 0 0 A := ⟨_, rfl⟩
  rw [← hQ]
  have hP : va_P (dC, dI) vwCl [(a_x, .inr (6, [.ref a_pl, .ref a_lo, .ref a_sh, .long trc])), (a_sh, .inr (5, [.int thg, .int req, .ref a_ak, .int ocn, .ref a_os, .ref a_le]))] s.heap := hP
  refine en_ok hargs (Nat.le_of_ble_eq_true rfl) (fun ls hl => ?_)
  have hl : lv_has ls 1 [(0, .ref a_x)] := hl
  have h := hg
  unfold g_X6_drop at h
  refine lv_aload_n hx hb dX6_drop_0 rfl (lv_at hl 0 rfl) ?_
  refine va_get (D := (dC, dI)) (ci := 6) (v := .ref a_sh) (C := RX6) (T := TX6) (N := 4) hx hb hts (fun _ h => List.mem_cons_of_mem _ (List.mem_append_left _ (List.mem_append_right _ h))) hown hK hP 0 rfl rfl 2 (by decide) (hts (.fieldLink RX6 26 "RentOrBuy" "shelf" "LRentOrBuy$Shelf;") (List.mem_cons_of_mem _ (List.mem_append_left _ (List.mem_append_left _ (List.mem_of_getElem? (i := 0) rfl))))) (fun _ h9 => h9) rfl dX6_drop_1 ?_
  refine va_getN (D := (dC, dI)) (ci := 5) (v := .int req) (C := RX5) (T := TX5) (N := 6) hx hb hts (fun _ h => List.mem_cons_of_mem _ (List.mem_append_right _ h)) hown hK hP 1 rfl rfl 1 (by decide) (hN.f 7 rfl) (fun _ h9 => h9) rfl dX6_drop_4 ?_
  refine lv_if_ne (tgt := 13) hx hb dX6_drop_7 (by decide) (fun c7 => ?_) (fun c7 => ?_)
  · replace h := h.1 c7
    refine lv_aload_n hx hb dX6_drop_13 rfl (lv_at hl 0 rfl) ?_
    refine va_get (D := (dC, dI)) (ci := 6) (v := .ref a_sh) (C := RX6) (T := TX6) (N := 4) hx hb hts (fun _ h => List.mem_cons_of_mem _ (List.mem_append_left _ (List.mem_append_right _ h))) hown hK hP 0 rfl rfl 2 (by decide) (hts (.fieldLink RX6 26 "RentOrBuy" "shelf" "LRentOrBuy$Shelf;") (List.mem_cons_of_mem _ (List.mem_append_left _ (List.mem_append_left _ (List.mem_of_getElem? (i := 0) rfl))))) (fun _ h9 => h9) rfl dX6_drop_14 ?_
    refine lv_dup hx hb dX6_drop_17 rfl ?_
    refine va_getN (D := (dC, dI)) (ci := 5) (v := .int req) (C := RX5) (T := TX5) (N := 6) hx hb hts (fun _ h => List.mem_cons_of_mem _ (List.mem_append_right _ h)) hown hK hP 1 rfl rfl 1 (by decide) (hN.f 7 rfl) (fun _ h9 => h9) rfl dX6_drop_18 ?_
    refine lv_iconst (v := (1 : Int32)) hx hb dX6_drop_21 (by decide +kernel) ?_
    refine lv_isub hx hb dX6_drop_22 ?_
    refine va_putN (D := (dC, dI)) (ci := 5) (v := .int (req - (1 : Int32))) (ty := .int) (C := RX5) (T := TX5) (N := 6) hx hb hts (fun _ h => List.mem_cons_of_mem _ (List.mem_append_right _ h)) tyX5 tyX5_ok nmX5 hown hK hP hD hS 1 rfl rfl 1 (by decide) (hN.f 7 rfl) (fun _ h9 => h9) rfl (by decide +kernel) rfl rfl (Nat.le_of_ble_eq_true rfl) dX6_drop_23 (fun H locs hP hD hS => ?_)
    have hP : va_P (dC, dI) vwCl [(a_x, .inr (6, [.ref a_pl, .ref a_lo, .ref a_sh, .long trc])), (a_sh, .inr (5, [.int thg, .int (req - (1 : Int32)), .ref a_ak, .int ocn, .ref a_os, .ref a_le]))] H := hP
    have hD : va_D A [(a_x, .inr (6, [.ref a_pl, .ref a_lo, .ref a_sh, .long trc])), (a_sh, .inr (5, [.int thg, .int (req - (1 : Int32)), .ref a_ak, .int ocn, .ref a_os, .ref a_le]))] := hD
    refine lv_aload_n hx hb dX6_drop_26 rfl (lv_at hl 0 rfl) ?_
    refine va_get (D := (dC, dI)) (ci := 6) (v := .ref a_sh) (C := RX6) (T := TX6) (N := 4) hx hb hts (fun _ h => List.mem_cons_of_mem _ (List.mem_append_left _ (List.mem_append_right _ h))) hown hK hP 0 rfl rfl 2 (by decide) (hts (.fieldLink RX6 26 "RentOrBuy" "shelf" "LRentOrBuy$Shelf;") (List.mem_cons_of_mem _ (List.mem_append_left _ (List.mem_append_left _ (List.mem_of_getElem? (i := 0) rfl))))) (fun _ h9 => h9) rfl dX6_drop_27 ?_
    refine va_getN (D := (dC, dI)) (ci := 5) (v := .int (req - (1 : Int32))) (C := RX5) (T := TX5) (N := 6) hx hb hts (fun _ h => List.mem_cons_of_mem _ (List.mem_append_right _ h)) hown hK hP 1 rfl rfl 1 (by decide) (hN.f 7 rfl) (fun _ h9 => h9) rfl dX6_drop_30 ?_
    rw [hQ]
    exact rt_i ((req - (1 : Int32))) hx hb hr hlocks h hP hD hS dX6_drop_33
  · replace h := h.2 c7
    refine lv_bipush (v := (-2 : Int32)) hx hb dX6_drop_10 (by decide +kernel) ?_
    rw [hQ]
    exact rt_i (req) hx hb hr hlocks h hP hD hS dX6_drop_12

/-- RentOrBuy.ends -/
def rmX6_ends : Room := { frames := 1, cells := 0, slots := 0, locals := 22 }
set_option maxHeartbeats 4000000 in
set_option maxRecDepth 100000 in
theorem c_X6_ends (l : Launch) (dC : Nat → ClassId) (dI : Nat → Nat → Nat) (kA : ClassId) (a_x a_pl a_lo a_op a_oe a_sh a_tk a_rs : Nat) (sz : Nat) (trc : Int64) (days : Int32) (opF : Nat → Int32) (oeF : Nat → Int32) (p1 : Int32) (K : Int32 → Int32 → (Nat → Int32) → (Nat → Int32) → Prop) (hg : g_X6_ends trc days opF oeF p1 K) : Met l yX6_ends wsX6_ends rmX6_ends (va_Pc [.ref a_x, .int p1] (prW (dC, dI) kA sz [(a_x, .inr (6, [.ref a_pl, .ref a_lo, .ref a_sh, .long trc])), (a_pl, .inr (3, [.int days, .ref a_tk, .ref a_rs])), (a_lo, .inr (2, [.ref a_op, .ref a_oe])), (a_op, .inl (kA, 42, .inl opF)), (a_oe, .inl (kA, 42, .inl oeF))])) (va_Qi (fun (r : Int32) (u : Int32 × (Nat → Int32) × (Nat → Int32)) => K r u.1 u.2.1 u.2.2) (poW (dC, dI) (va_A [(a_x, .inr (6, [.ref a_pl, .ref a_lo, .ref a_sh, .long trc])), (a_pl, .inr (3, [.int days, .ref a_tk, .ref a_rs])), (a_lo, .inr (2, [.ref a_op, .ref a_oe])), (a_op, .inl (kA, 42, .inl opF)), (a_oe, .inl (kA, 42, .inl oeF))] sz) (fun (u : Int32 × (Nat → Int32) × (Nat → Int32)) => [(a_x, .inr (6, [.ref a_pl, .ref a_lo, .ref a_sh, .long trc])), (a_pl, .inr (3, [.int u.1, .ref a_tk, .ref a_rs])), (a_lo, .inr (2, [.ref a_op, .ref a_oe])), (a_op, .inl (kA, 42, .inl u.2.1)), (a_oe, .inl (kA, 42, .inl u.2.2))])) (va_A [(a_x, .inr (6, [.ref a_pl, .ref a_lo, .ref a_sh, .long trc])), (a_pl, .inr (3, [.int days, .ref a_tk, .ref a_rs])), (a_lo, .inr (2, [.ref a_op, .ref a_oe])), (a_op, .inl (kA, 42, .inl opF)), (a_oe, .inl (kA, 42, .inl oeF))] sz)) 0 0 (va_A [(a_x, .inr (6, [.ref a_pl, .ref a_lo, .ref a_sh, .long trc])), (a_pl, .inr (3, [.int days, .ref a_tk, .ref a_rs])), (a_lo, .inr (2, [.ref a_op, .ref a_oe])), (a_op, .inl (kA, 42, .inl opF)), (a_oe, .inl (kA, 42, .inl oeF))] sz) := by
  refine Met.ofW (cc := cX6_ends) (maxL := 3) (ret := (some .int)) (by decide) rfl ?_
  intro p e s m args below meth c s₁ B hml hv
  obtain ⟨hargs, hsz, hP, hK, hD0, hN⟩ := hv
  have hx := B.exec
  have hb := B.bytes
  have hr := B.returns
  have hts := atoms_spec (ws := wsX6_ends) B.pre
  have hown : s.vm.findClass RX6 = some m.cls := findClass_of_methodNamed B.named
  have hlocks := B.notSynchronized
  subst hsz
  have hD := hD0.self (sz := s.heap.size)
  generalize hAe : va_A [(a_x, .inr (6, [.ref a_pl, .ref a_lo, .ref a_sh, .long trc])), (a_pl, .inr (3, [.int days, .ref a_tk, .ref a_rs])), (a_lo, .inr (2, [.ref a_op, .ref a_oe])), (a_op, .inl (kA, 42, .inl opF)), (a_oe, .inl (kA, 42, .inl oeF))] s.heap.size = A at hD ⊢
  have hA : ∀ q : Nat, s.heap.size ≤ q → A q := fun q h => by rw [← hAe]; exact Or.inr h
  have hS : va_S A s.heap s.heap [] := va_S.rf
  obtain ⟨Q, hQ⟩ : ∃ Q : State → Prop, Q = MQ below (va_Qi (fun (r : Int32) (u : Int32 × (Nat → Int32) × (Nat → Int32)) => K r u.1 u.2.1 u.2.2) (poW (dC, dI) A (fun (u : Int32 × (Nat → Int32) × (Nat → Int32)) => [(a_x, .inr (6, [.ref a_pl, .ref a_lo, .ref a_sh, .long trc])), (a_pl, .inr (3, [.int u.1, .ref a_tk, .ref a_rs])), (a_lo, .inr (2, [.ref a_op, .ref a_oe])), (a_op, .inl (kA, 42, .inl u.2.1)), (a_oe, .inl (kA, 42, .inl u.2.2))])) A) args s 0 0 A := ⟨_, rfl⟩
  rw [← hQ]
  have hP : va_P (dC, dI) vwCl [(a_x, .inr (6, [.ref a_pl, .ref a_lo, .ref a_sh, .long trc])), (a_pl, .inr (3, [.int days, .ref a_tk, .ref a_rs])), (a_lo, .inr (2, [.ref a_op, .ref a_oe])), (a_op, .inl (kA, 42, .inl opF)), (a_oe, .inl (kA, 42, .inl oeF))] s.heap := hP
  refine en_ok hargs (Nat.le_of_ble_eq_true rfl) (fun ls hl => ?_)
  have hl : lv_has ls 3 [(0, .ref a_x), (1, .int p1)] := hl
  have h := hg
  unfold g_X6_ends at h
  refine lv_iload_n hx hb dX6_ends_0 rfl (lv_at hl 1 rfl) ?_
  refine lv_iconst (v := (1 : Int32)) hx hb dX6_ends_1 (by decide +kernel) ?_
  refine lv_bipush (v := (40 : Int32)) hx hb dX6_ends_2 (by decide +kernel) ?_
  have hPc := hP.sub (ws' := []) [] rfl
  have hDc := hD.sub (ws' := []) [] (by decide) rfl
  refine fr_i (wr := [(a_x, .inr (6, [.ref a_pl, .ref a_lo, .ref a_sh, .long trc])), (a_pl, .inr (3, [.int days, .ref a_tk, .ref a_rs])), (a_lo, .inr (2, [.ref a_op, .ref a_oe])), (a_op, .inl (kA, 42, .inl opF)), (a_oe, .inl (kA, 42, .inl oeF))]) (WN := fun (u4 : Unit) => [(a_x, .inr (6, [.ref a_pl, .ref a_lo, .ref a_sh, .long trc])), (a_pl, .inr (3, [.int days, .ref a_tk, .ref a_rs])), (a_lo, .inr (2, [.ref a_op, .ref a_oe])), (a_op, .inl (kA, 42, .inl opF)), (a_oe, .inl (kA, 42, .inl oeF))]) (va_runS (As := [.int p1, .int (1 : Int32), .int (40 : Int32)]) (rest := []) ⟨hx, hb, hml, hown, hts⟩ (c_X6_isWithin l dC dI kA s.heap.size p1 (1 : Int32) (40 : Int32) _ h) (va_cwS 3 hts gX6_ends_X6_isWithin rfl rfl rfl (by decide +kernel) ⟨Nat.le_of_ble_eq_true rfl, Nat.le_of_ble_eq_true rfl⟩) (prW.preS hPc hDc hK hN) rfl rfl hl.1 rfl (lv_room (Nat.le_of_ble_eq_true rfl)) dX6_ends_4 ⟨Nat.le_of_ble_eq_true rfl, Nat.le_of_ble_eq_true rfl⟩) hP hD hS hA [] [0, 1, 2, 3, 4] rfl rfl (by decide) (by decide) [0, 1, 2, 3, 4] (by decide) (fun _ => rfl) (fun r4 u4 H locs h hP hD hS => ?_)
  have hP : va_P (dC, dI) vwCl [(a_x, .inr (6, [.ref a_pl, .ref a_lo, .ref a_sh, .long trc])), (a_pl, .inr (3, [.int days, .ref a_tk, .ref a_rs])), (a_lo, .inr (2, [.ref a_op, .ref a_oe])), (a_op, .inl (kA, 42, .inl opF)), (a_oe, .inl (kA, 42, .inl oeF))] H := hP
  have hD : va_D A [(a_x, .inr (6, [.ref a_pl, .ref a_lo, .ref a_sh, .long trc])), (a_pl, .inr (3, [.int days, .ref a_tk, .ref a_rs])), (a_lo, .inr (2, [.ref a_op, .ref a_oe])), (a_op, .inl (kA, 42, .inl opF)), (a_oe, .inl (kA, 42, .inl oeF))] := hD
  refine lv_if_ne (tgt := 12) hx hb dX6_ends_7 (by decide) (fun c7 => ?_) (fun c7 => ?_)
  · replace h := h.1 c7
    refine lv_aload_n hx hb dX6_ends_12 rfl (lv_at hl 0 rfl) ?_
    refine va_get (D := (dC, dI)) (ci := 6) (v := .ref a_pl) (C := RX6) (T := TX6) (N := 4) hx hb hts (fun _ h => List.mem_cons_of_mem _ (List.mem_append_left _ (List.mem_append_left _ (List.mem_append_right _ h)))) hown hK hP 0 rfl rfl 0 (by decide) (hts (.fieldLink RX6 10 "RentOrBuy" "plans" "LRentOrBuy$Plans;") (List.mem_cons_of_mem _ (List.mem_append_left _ (List.mem_append_left _ (List.mem_append_left _ (List.mem_of_getElem? (i := 0) rfl)))))) (fun _ h9 => h9) rfl dX6_ends_13 ?_
    refine va_getN (D := (dC, dI)) (ci := 3) (v := .int days) (C := RX3) (T := TX3) (N := 3) hx hb hts (fun _ h => List.mem_cons_of_mem _ (List.mem_append_left _ (List.mem_append_right _ h))) hown hK hP 1 rfl rfl 0 (by decide) (hN.f 1 rfl) (fun _ h9 => h9) rfl dX6_ends_16 ?_
    refine lv_istore_n (lv' := [(2, .int days), (0, .ref a_x), (1, .int p1)]) hx hb dX6_ends_19 rfl hl (by decide) rfl (fun ls hl => ?_)
    refine lv_aload_n hx hb dX6_ends_20 rfl (lv_at hl 1 rfl) ?_
    refine va_get (D := (dC, dI)) (ci := 6) (v := .ref a_pl) (C := RX6) (T := TX6) (N := 4) hx hb hts (fun _ h => List.mem_cons_of_mem _ (List.mem_append_left _ (List.mem_append_left _ (List.mem_append_right _ h)))) hown hK hP 0 rfl rfl 0 (by decide) (hts (.fieldLink RX6 10 "RentOrBuy" "plans" "LRentOrBuy$Plans;") (List.mem_cons_of_mem _ (List.mem_append_left _ (List.mem_append_left _ (List.mem_append_left _ (List.mem_of_getElem? (i := 0) rfl)))))) (fun _ h9 => h9) rfl dX6_ends_21 ?_
    refine lv_iload_n hx hb dX6_ends_24 rfl (lv_at hl 2 rfl) ?_
    refine va_putN (D := (dC, dI)) (ci := 3) (v := .int p1) (ty := .int) (C := RX3) (T := TX3) (N := 3) hx hb hts (fun _ h => List.mem_cons_of_mem _ (List.mem_append_left _ (List.mem_append_right _ h))) tyX3 tyX3_ok nmX3 hown hK hP hD hS 1 rfl rfl 0 (by decide) (hN.f 1 rfl) (fun _ h9 => h9) rfl (by decide +kernel) rfl rfl (Nat.le_of_ble_eq_true rfl) dX6_ends_25 (fun H locs hP hD hS => ?_)
    have hP : va_P (dC, dI) vwCl [(a_x, .inr (6, [.ref a_pl, .ref a_lo, .ref a_sh, .long trc])), (a_pl, .inr (3, [.int p1, .ref a_tk, .ref a_rs])), (a_lo, .inr (2, [.ref a_op, .ref a_oe])), (a_op, .inl (kA, 42, .inl opF)), (a_oe, .inl (kA, 42, .inl oeF))] H := hP
    have hD : va_D A [(a_x, .inr (6, [.ref a_pl, .ref a_lo, .ref a_sh, .long trc])), (a_pl, .inr (3, [.int p1, .ref a_tk, .ref a_rs])), (a_lo, .inr (2, [.ref a_op, .ref a_oe])), (a_op, .inl (kA, 42, .inl opF)), (a_oe, .inl (kA, 42, .inl oeF))] := hD
    refine lv_aload_n hx hb dX6_ends_28 rfl (lv_at hl 1 rfl) ?_
    refine va_get (D := (dC, dI)) (ci := 6) (v := .ref a_lo) (C := RX6) (T := TX6) (N := 4) hx hb hts (fun _ h => List.mem_cons_of_mem _ (List.mem_append_left _ (List.mem_append_left _ (List.mem_append_right _ h)))) hown hK hP 0 rfl rfl 1 (by decide) (hts (.fieldLink RX6 19 "RentOrBuy" "lots" "LRentOrBuy$Lots;") (List.mem_cons_of_mem _ (List.mem_append_left _ (List.mem_append_left _ (List.mem_append_left _ (List.mem_of_getElem? (i := 1) rfl)))))) (fun _ h9 => h9) rfl dX6_ends_29 ?_
    have hPc := hP.sub (ws' := [(a_lo, .inr (2, [.ref a_op, .ref a_oe])), (a_op, .inl (kA, 42, .inl opF)), (a_oe, .inl (kA, 42, .inl oeF))]) [2, 3, 4] rfl
    have hDc := hD.sub (ws' := [(a_lo, .inr (2, [.ref a_op, .ref a_oe])), (a_op, .inl (kA, 42, .inl opF)), (a_oe, .inl (kA, 42, .inl oeF))]) [2, 3, 4] (by decide) rfl
    refine fr_v (wr := [(a_x, .inr (6, [.ref a_pl, .ref a_lo, .ref a_sh, .long trc])), (a_pl, .inr (3, [.int p1, .ref a_tk, .ref a_rs]))]) (WN := fun (u32 : (Nat → Int32) × (Nat → Int32)) => [(a_x, .inr (6, [.ref a_pl, .ref a_lo, .ref a_sh, .long trc])), (a_pl, .inr (3, [.int p1, .ref a_tk, .ref a_rs])), (a_lo, .inr (2, [.ref a_op, .ref a_oe])), (a_op, .inl (kA, 42, .inl u32.1)), (a_oe, .inl (kA, 42, .inl u32.2))]) (va_runV (As := []) (rest := []) ⟨hx, hb, hml, hown, hts⟩ (c_X2_clearAll l dC dI kA a_lo a_op a_oe H.size opF oeF _ h) (cwV 0 hts gX6_ends_X2_clearAll rfl rfl rfl (by decide +kernel) ⟨Nat.le_of_ble_eq_true rfl, Nat.le_of_ble_eq_true rfl⟩) (prW.preV (ci := 2) (q0 := 0) hPc hDc hK hN rfl rfl) rfl rfl hl.1 rfl (lv_room (Nat.le_of_ble_eq_true rfl)) dX6_ends_32 ⟨Nat.le_of_ble_eq_true rfl, Nat.le_of_ble_eq_true rfl⟩) hP hD hS hA [2, 3, 4] [0, 1] rfl rfl (by decide) (by decide) [0, 1, 2, 3, 4] (by decide) (fun _ => rfl) (fun u32 H locs h hP hD hS => ?_)
    obtain ⟨y32_opF', y32_oeF'⟩ := u32
    have hP : va_P (dC, dI) vwCl [(a_x, .inr (6, [.ref a_pl, .ref a_lo, .ref a_sh, .long trc])), (a_pl, .inr (3, [.int p1, .ref a_tk, .ref a_rs])), (a_lo, .inr (2, [.ref a_op, .ref a_oe])), (a_op, .inl (kA, 42, .inl y32_opF')), (a_oe, .inl (kA, 42, .inl y32_oeF'))] H := hP
    have hD : va_D A [(a_x, .inr (6, [.ref a_pl, .ref a_lo, .ref a_sh, .long trc])), (a_pl, .inr (3, [.int p1, .ref a_tk, .ref a_rs])), (a_lo, .inr (2, [.ref a_op, .ref a_oe])), (a_op, .inl (kA, 42, .inl y32_opF')), (a_oe, .inl (kA, 42, .inl y32_oeF'))] := hD
    refine lv_iload_n hx hb dX6_ends_35 rfl (lv_at hl 0 rfl) ?_
    rw [hQ]
    exact rt_i (p1, y32_opF', y32_oeF') hx hb hr hlocks h hP hD hS dX6_ends_36
  · replace h := h.2 c7
    refine lv_iconst (v := (-1 : Int32)) hx hb dX6_ends_10 (by decide +kernel) ?_
    rw [hQ]
    exact rt_i (days, opF, oeF) hx hb hr hlocks h hP hD hS dX6_ends_11

/-- RentOrBuy.guess -/
def rmX6_guess : Room := { frames := 6, cells := 0, slots := 0, locals := 128 }
set_option maxHeartbeats 4000000 in
set_option maxRecDepth 100000 in
theorem c_X6_guess (l : Launch) (dC : Nat → ClassId) (dI : Nat → Nat → Nat) (kA : ClassId) (a_x a_pl a_tk a_rs a_lo a_sh : Nat) (sz : Nat) (trc : Int64) (days : Int32) (tkk : Nat) (tkd : Int32) (tkp : Int32) (tkr : Int32) (tkc : Int32) (rsF : Nat → Int32) (p1 : Int32) (p2 : Int32) (K : Int32 → Prop) (hg : g_X6_guess trc days tkk tkd tkp tkr tkc rsF p1 p2 K) : Met l yX6_guess wsX6_guess rmX6_guess (va_Pc [.ref a_x, .int p1, .int p2] (prW (dC, dI) kA sz [(a_x, .inr (6, [.ref a_pl, .ref a_lo, .ref a_sh, .long trc])), (a_pl, .inr (3, [.int days, .ref a_tk, .ref a_rs])), (a_tk, tkE tkk tkd tkp tkr tkc), (a_rs, .inl (kA, 41, .inl rsF))])) (va_Qi (fun (r : Int32) (u : Unit) => K r) (poW (dC, dI) (va_A [(a_x, .inr (6, [.ref a_pl, .ref a_lo, .ref a_sh, .long trc])), (a_pl, .inr (3, [.int days, .ref a_tk, .ref a_rs])), (a_tk, tkE tkk tkd tkp tkr tkc), (a_rs, .inl (kA, 41, .inl rsF))] sz) (fun (u : Unit) => [(a_x, .inr (6, [.ref a_pl, .ref a_lo, .ref a_sh, .long trc])), (a_pl, .inr (3, [.int days, .ref a_tk, .ref a_rs])), (a_tk, tkE tkk tkd tkp tkr tkc), (a_rs, .inl (kA, 41, .inl rsF))])) (va_A [(a_x, .inr (6, [.ref a_pl, .ref a_lo, .ref a_sh, .long trc])), (a_pl, .inr (3, [.int days, .ref a_tk, .ref a_rs])), (a_tk, tkE tkk tkd tkp tkr tkc), (a_rs, .inl (kA, 41, .inl rsF))] sz)) 0 0 (va_A [(a_x, .inr (6, [.ref a_pl, .ref a_lo, .ref a_sh, .long trc])), (a_pl, .inr (3, [.int days, .ref a_tk, .ref a_rs])), (a_tk, tkE tkk tkd tkp tkr tkc), (a_rs, .inl (kA, 41, .inl rsF))] sz) := by
  refine Met.ofW (cc := cX6_guess) (maxL := 3) (ret := (some .int)) (by decide) rfl ?_
  intro p e s m args below meth c s₁ B hml hv
  obtain ⟨hargs, hsz, hP, hK, hD0, hN⟩ := hv
  have hx := B.exec
  have hb := B.bytes
  have hr := B.returns
  have hts := atoms_spec (ws := wsX6_guess) B.pre
  have hown : s.vm.findClass RX6 = some m.cls := findClass_of_methodNamed B.named
  have hlocks := B.notSynchronized
  subst hsz
  have hD := hD0.self (sz := s.heap.size)
  generalize hAe : va_A [(a_x, .inr (6, [.ref a_pl, .ref a_lo, .ref a_sh, .long trc])), (a_pl, .inr (3, [.int days, .ref a_tk, .ref a_rs])), (a_tk, tkE tkk tkd tkp tkr tkc), (a_rs, .inl (kA, 41, .inl rsF))] s.heap.size = A at hD ⊢
  have hA : ∀ q : Nat, s.heap.size ≤ q → A q := fun q h => by rw [← hAe]; exact Or.inr h
  have hS : va_S A s.heap s.heap [] := va_S.rf
  obtain ⟨Q, hQ⟩ : ∃ Q : State → Prop, Q = MQ below (va_Qi (fun (r : Int32) (u : Unit) => K r) (poW (dC, dI) A (fun (u : Unit) => [(a_x, .inr (6, [.ref a_pl, .ref a_lo, .ref a_sh, .long trc])), (a_pl, .inr (3, [.int days, .ref a_tk, .ref a_rs])), (a_tk, tkE tkk tkd tkp tkr tkc), (a_rs, .inl (kA, 41, .inl rsF))])) A) args s 0 0 A := ⟨_, rfl⟩
  rw [← hQ]
  have hP : va_P (dC, dI) vwCl [(a_x, .inr (6, [.ref a_pl, .ref a_lo, .ref a_sh, .long trc])), (a_pl, .inr (3, [.int days, .ref a_tk, .ref a_rs])), (a_tk, tkE tkk tkd tkp tkr tkc), (a_rs, .inl (kA, 41, .inl rsF))] s.heap := hP
  refine en_ok hargs (Nat.le_of_ble_eq_true rfl) (fun ls hl => ?_)
  have hl : lv_has ls 3 [(0, .ref a_x), (1, .int p1), (2, .int p2)] := hl
  have h := hg
  unfold g_X6_guess at h
  refine lv_aload_n hx hb dX6_guess_0 rfl (lv_at hl 0 rfl) ?_
  refine va_get (D := (dC, dI)) (ci := 6) (v := .ref a_pl) (C := RX6) (T := TX6) (N := 4) hx hb hts (fun _ h => List.mem_cons_of_mem _ (List.mem_append_left _ (List.mem_append_left _ (List.mem_append_left _ (List.mem_append_left _ (List.mem_append_right _ h)))))) hown hK hP 0 rfl rfl 0 (by decide) (hts (.fieldLink RX6 10 "RentOrBuy" "plans" "LRentOrBuy$Plans;") (List.mem_cons_of_mem _ (List.mem_append_left _ (List.mem_append_left _ (List.mem_append_left _ (List.mem_append_left _ (List.mem_append_left _ (List.mem_of_getElem? (i := 0) rfl)))))))) (fun _ h9 => h9) rfl dX6_guess_1 ?_
  refine lv_iload_n hx hb dX6_guess_4 rfl (lv_at hl 1 rfl) ?_
  have hPc := hP.sub (ws' := [(a_pl, .inr (3, [.int days, .ref a_tk, .ref a_rs]))]) [1] rfl
  have hDc := hD.sub (ws' := [(a_pl, .inr (3, [.int days, .ref a_tk, .ref a_rs]))]) [1] (by decide) rfl
  refine fr_i (wr := [(a_x, .inr (6, [.ref a_pl, .ref a_lo, .ref a_sh, .long trc])), (a_tk, tkE tkk tkd tkp tkr tkc), (a_rs, .inl (kA, 41, .inl rsF))]) (WN := fun (u5 : Unit) => [(a_x, .inr (6, [.ref a_pl, .ref a_lo, .ref a_sh, .long trc])), (a_pl, .inr (3, [.int days, .ref a_tk, .ref a_rs])), (a_tk, tkE tkk tkd tkp tkr tkc), (a_rs, .inl (kA, 41, .inl rsF))]) (va_runV (As := [.int p1]) (rest := []) ⟨hx, hb, hml, hown, hts⟩ (c_X3_isEnd l dC dI kA a_pl a_tk a_rs s.heap.size days p1 _ h) (cwV 1 hts gX6_guess_X3_isEnd rfl rfl rfl (by decide +kernel) ⟨Nat.le_of_ble_eq_true rfl, Nat.le_of_ble_eq_true rfl⟩) (prW.preV (ci := 3) (q0 := 0) hPc hDc hK hN rfl rfl) rfl rfl hl.1 rfl (lv_room (Nat.le_of_ble_eq_true rfl)) dX6_guess_5 ⟨Nat.le_of_ble_eq_true rfl, Nat.le_of_ble_eq_true rfl⟩) hP hD hS hA [1] [0, 2, 3] rfl rfl (by decide) (by decide) [0, 3, 1, 2] (by decide) (fun _ => rfl) (fun r5 u5 H locs h hP hD hS => ?_)
  have hP : va_P (dC, dI) vwCl [(a_x, .inr (6, [.ref a_pl, .ref a_lo, .ref a_sh, .long trc])), (a_pl, .inr (3, [.int days, .ref a_tk, .ref a_rs])), (a_tk, tkE tkk tkd tkp tkr tkc), (a_rs, .inl (kA, 41, .inl rsF))] H := hP
  have hD : va_D A [(a_x, .inr (6, [.ref a_pl, .ref a_lo, .ref a_sh, .long trc])), (a_pl, .inr (3, [.int days, .ref a_tk, .ref a_rs])), (a_tk, tkE tkk tkd tkp tkr tkc), (a_rs, .inl (kA, 41, .inl rsF))] := hD
  refine lv_if_eq (tgt := 21) hx hb dX6_guess_8 (by decide) (fun c8 => ?_) (fun c8 => ?_)
  · replace h := h.1 c8
    refine lv_iconst (v := (-1 : Int32)) hx hb dX6_guess_21 (by decide +kernel) ?_
    rw [hQ]
    exact rt_i () hx hb hr hlocks h hP hD hS dX6_guess_22
  · replace h := h.2 c8
    refine lv_iload_n hx hb dX6_guess_11 rfl (lv_at hl 2 rfl) ?_
    refine lv_iconst (v := (1 : Int32)) hx hb dX6_guess_12 (by decide +kernel) ?_
    refine lv_bipush (v := (9 : Int32)) hx hb dX6_guess_13 (by decide +kernel) ?_
    have hPc := hP.sub (ws' := []) [] rfl
    have hDc := hD.sub (ws' := []) [] (by decide) rfl
    refine fr_i (wr := [(a_x, .inr (6, [.ref a_pl, .ref a_lo, .ref a_sh, .long trc])), (a_pl, .inr (3, [.int days, .ref a_tk, .ref a_rs])), (a_tk, tkE tkk tkd tkp tkr tkc), (a_rs, .inl (kA, 41, .inl rsF))]) (WN := fun (u15 : Unit) => [(a_x, .inr (6, [.ref a_pl, .ref a_lo, .ref a_sh, .long trc])), (a_pl, .inr (3, [.int days, .ref a_tk, .ref a_rs])), (a_tk, tkE tkk tkd tkp tkr tkc), (a_rs, .inl (kA, 41, .inl rsF))]) (va_runS (As := [.int p2, .int (1 : Int32), .int (9 : Int32)]) (rest := []) ⟨hx, hb, hml, hown, hts⟩ (c_X6_isWithin l dC dI kA H.size p2 (1 : Int32) (9 : Int32) _ h) (va_cwS 3 hts gX6_guess_X6_isWithin rfl rfl rfl (by decide +kernel) ⟨Nat.le_of_ble_eq_true rfl, Nat.le_of_ble_eq_true rfl⟩) (prW.preS hPc hDc hK hN) rfl rfl hl.1 rfl (lv_room (Nat.le_of_ble_eq_true rfl)) dX6_guess_15 ⟨Nat.le_of_ble_eq_true rfl, Nat.le_of_ble_eq_true rfl⟩) hP hD hS hA [] [0, 1, 2, 3] rfl rfl (by decide) (by decide) [0, 1, 2, 3] (by decide) (fun _ => rfl) (fun r15 u15 H locs h hP hD hS => ?_)
    have hP : va_P (dC, dI) vwCl [(a_x, .inr (6, [.ref a_pl, .ref a_lo, .ref a_sh, .long trc])), (a_pl, .inr (3, [.int days, .ref a_tk, .ref a_rs])), (a_tk, tkE tkk tkd tkp tkr tkc), (a_rs, .inl (kA, 41, .inl rsF))] H := hP
    have hD : va_D A [(a_x, .inr (6, [.ref a_pl, .ref a_lo, .ref a_sh, .long trc])), (a_pl, .inr (3, [.int days, .ref a_tk, .ref a_rs])), (a_tk, tkE tkk tkd tkp tkr tkc), (a_rs, .inl (kA, 41, .inl rsF))] := hD
    refine lv_if_ne (tgt := 23) hx hb dX6_guess_18 (by decide) (fun c18 => ?_) (fun c18 => ?_)
    · replace h := h.1 c18
      refine lv_aload_n hx hb dX6_guess_23 rfl (lv_at hl 0 rfl) ?_
      refine va_get (D := (dC, dI)) (ci := 6) (v := .ref a_pl) (C := RX6) (T := TX6) (N := 4) hx hb hts (fun _ h => List.mem_cons_of_mem _ (List.mem_append_left _ (List.mem_append_left _ (List.mem_append_left _ (List.mem_append_left _ (List.mem_append_right _ h)))))) hown hK hP 0 rfl rfl 0 (by decide) (hts (.fieldLink RX6 10 "RentOrBuy" "plans" "LRentOrBuy$Plans;") (List.mem_cons_of_mem _ (List.mem_append_left _ (List.mem_append_left _ (List.mem_append_left _ (List.mem_append_left _ (List.mem_append_left _ (List.mem_of_getElem? (i := 0) rfl)))))))) (fun _ h9 => h9) rfl dX6_guess_24 ?_
      refine lv_iload_n hx hb dX6_guess_27 rfl (lv_at hl 1 rfl) ?_
      refine lv_iload_n hx hb dX6_guess_28 rfl (lv_at hl 2 rfl) ?_
      have hPc := hP.sub (ws' := [(a_pl, .inr (3, [.int days, .ref a_tk, .ref a_rs])), (a_tk, tkE tkk tkd tkp tkr tkc), (a_rs, .inl (kA, 41, .inl rsF))]) [1, 2, 3] rfl
      have hDc := hD.sub (ws' := [(a_pl, .inr (3, [.int days, .ref a_tk, .ref a_rs])), (a_tk, tkE tkk tkd tkp tkr tkc), (a_rs, .inl (kA, 41, .inl rsF))]) [1, 2, 3] (by decide) rfl
      refine fr_i (wr := [(a_x, .inr (6, [.ref a_pl, .ref a_lo, .ref a_sh, .long trc]))]) (WN := fun (u29 : Unit) => [(a_x, .inr (6, [.ref a_pl, .ref a_lo, .ref a_sh, .long trc])), (a_pl, .inr (3, [.int days, .ref a_tk, .ref a_rs])), (a_tk, tkE tkk tkd tkp tkr tkc), (a_rs, .inl (kA, 41, .inl rsF))]) (va_runV (As := [.int p1, .int p2]) (rest := []) ⟨hx, hb, hml, hown, hts⟩ (c_X3_planByGuess l dC dI kA a_pl a_tk a_rs H.size days tkk tkd tkp tkr tkc rsF p1 p2 _ h) (cwV 2 hts gX6_guess_X3_planByGuess rfl rfl rfl (by decide +kernel) ⟨Nat.le_of_ble_eq_true rfl, Nat.le_of_ble_eq_true rfl⟩) (prW.preV (ci := 3) (q0 := 0) hPc hDc hK hN rfl rfl) rfl rfl hl.1 rfl (lv_room (Nat.le_of_ble_eq_true rfl)) dX6_guess_29 ⟨Nat.le_of_ble_eq_true rfl, Nat.le_of_ble_eq_true rfl⟩) hP hD hS hA [1, 2, 3] [0] rfl rfl (by decide) (by decide) [0, 1, 2, 3] (by decide) (fun _ => rfl) (fun r29 u29 H locs h hP hD hS => ?_)
      have hP : va_P (dC, dI) vwCl [(a_x, .inr (6, [.ref a_pl, .ref a_lo, .ref a_sh, .long trc])), (a_pl, .inr (3, [.int days, .ref a_tk, .ref a_rs])), (a_tk, tkE tkk tkd tkp tkr tkc), (a_rs, .inl (kA, 41, .inl rsF))] H := hP
      have hD : va_D A [(a_x, .inr (6, [.ref a_pl, .ref a_lo, .ref a_sh, .long trc])), (a_pl, .inr (3, [.int days, .ref a_tk, .ref a_rs])), (a_tk, tkE tkk tkd tkp tkr tkc), (a_rs, .inl (kA, 41, .inl rsF))] := hD
      rw [hQ]
      exact rt_i () hx hb hr hlocks h hP hD hS dX6_guess_32
    · replace h := h.2 c18
      refine lv_iconst (v := (-1 : Int32)) hx hb dX6_guess_21 (by decide +kernel) ?_
      rw [hQ]
      exact rt_i () hx hb hr hlocks h hP hD hS dX6_guess_22

/-- RentOrBuy.<init> -/
def rmX6_init : Room := { frames := 4, cells := 10, slots := 434, locals := 85 }
set_option maxHeartbeats 4000000 in
set_option maxRecDepth 100000 in
theorem c_X6_init (l : Launch) (dC : Nat → ClassId) (dI : Nat → Nat → Nat) (kA : ClassId) (a_x : Nat) (sz : Nat)  (K : Int64 → Int32 → Int32 → Int32 → (Nat → Int32) → (Nat → Int32) → (Nat → Int32) → Int32 → Int32 → Int32 → (Nat → Int32) → (Nat → Int32) → (Nat → Int32) → Prop) (hg : g_X6_init  K) : Met l yX6_init wsX6_init rmX6_init (va_Pc [.ref a_x] (prW (dC, dI) kA sz [(a_x, .inr (6, [.null, .null, .null, .long 0]))])) (va_Qv (fun (u : Int64 × Int32 × Int32 × Int32 × (Nat → Int32) × (Nat → Int32) × (Nat → Int32) × Int32 × Int32 × Int32 × (Nat → Int32) × (Nat → Int32) × (Nat → Int32) × Nat × Nat × Nat × Nat × Nat × Nat × Nat × Nat × Nat × Nat) => K u.1 u.2.1 u.2.2.1 u.2.2.2.1 u.2.2.2.2.1 u.2.2.2.2.2.1 u.2.2.2.2.2.2.1 u.2.2.2.2.2.2.2.1 u.2.2.2.2.2.2.2.2.1 u.2.2.2.2.2.2.2.2.2.1 u.2.2.2.2.2.2.2.2.2.2.1 u.2.2.2.2.2.2.2.2.2.2.2.1 u.2.2.2.2.2.2.2.2.2.2.2.2.1) (poW (dC, dI) (va_A [(a_x, .inr (6, [.null, .null, .null, .long 0]))] sz) (fun (u : Int64 × Int32 × Int32 × Int32 × (Nat → Int32) × (Nat → Int32) × (Nat → Int32) × Int32 × Int32 × Int32 × (Nat → Int32) × (Nat → Int32) × (Nat → Int32) × Nat × Nat × Nat × Nat × Nat × Nat × Nat × Nat × Nat × Nat) => [(a_x, .inr (6, [.ref u.2.2.2.2.2.2.2.2.2.2.2.2.2.1, .ref u.2.2.2.2.2.2.2.2.2.2.2.2.2.2.2.2.1, .ref u.2.2.2.2.2.2.2.2.2.2.2.2.2.2.2.2.2.2.2.1, .long u.1])), (u.2.2.2.2.2.2.2.2.2.2.2.2.2.1, .inr (3, [.int u.2.1, .ref u.2.2.2.2.2.2.2.2.2.2.2.2.2.2.1, .ref u.2.2.2.2.2.2.2.2.2.2.2.2.2.2.2.1])), (u.2.2.2.2.2.2.2.2.2.2.2.2.2.2.1, .inr (1, [.int u.2.2.1, .int u.2.2.2.1])), (u.2.2.2.2.2.2.2.2.2.2.2.2.2.2.2.1, .inl (kA, 41, .inl u.2.2.2.2.1)), (u.2.2.2.2.2.2.2.2.2.2.2.2.2.2.2.2.1, .inr (2, [.ref u.2.2.2.2.2.2.2.2.2.2.2.2.2.2.2.2.2.1, .ref u.2.2.2.2.2.2.2.2.2.2.2.2.2.2.2.2.2.2.1])), (u.2.2.2.2.2.2.2.2.2.2.2.2.2.2.2.2.2.1, .inl (kA, 42, .inl u.2.2.2.2.2.1)), (u.2.2.2.2.2.2.2.2.2.2.2.2.2.2.2.2.2.2.1, .inl (kA, 42, .inl u.2.2.2.2.2.2.1)), (u.2.2.2.2.2.2.2.2.2.2.2.2.2.2.2.2.2.2.2.1, .inr (5, [.int u.2.2.2.2.2.2.2.1, .int u.2.2.2.2.2.2.2.2.1, .ref u.2.2.2.2.2.2.2.2.2.2.2.2.2.2.2.2.2.2.2.2.1, .int u.2.2.2.2.2.2.2.2.2.1, .ref u.2.2.2.2.2.2.2.2.2.2.2.2.2.2.2.2.2.2.2.2.2.1, .ref u.2.2.2.2.2.2.2.2.2.2.2.2.2.2.2.2.2.2.2.2.2.2])), (u.2.2.2.2.2.2.2.2.2.2.2.2.2.2.2.2.2.2.2.2.1, .inl (kA, 16, .inl u.2.2.2.2.2.2.2.2.2.2.1)), (u.2.2.2.2.2.2.2.2.2.2.2.2.2.2.2.2.2.2.2.2.2.1, .inl (kA, 24, .inl u.2.2.2.2.2.2.2.2.2.2.2.1)), (u.2.2.2.2.2.2.2.2.2.2.2.2.2.2.2.2.2.2.2.2.2.2, .inl (kA, 256, .inl u.2.2.2.2.2.2.2.2.2.2.2.2.1))])) (va_A [(a_x, .inr (6, [.null, .null, .null, .long 0]))] sz)) 10 434 (va_A [(a_x, .inr (6, [.null, .null, .null, .long 0]))] sz) := by
  refine Met.ofW (cc := cX6_init) (maxL := 1) (ret := none) (by decide) rfl ?_
  intro p e s m args below meth c s₁ B hml hv
  obtain ⟨hargs, hsz, hP, hK, hD0, hN⟩ := hv
  have hx := B.exec
  have hb := B.bytes
  have hr := B.returns
  have hts := atoms_spec (ws := wsX6_init) B.pre
  have hown : s.vm.findClass RX6 = some m.cls := findClass_of_methodNamed B.named
  have hlocks := B.notSynchronized
  have hin : meth.name = "<init>" := (name_of_methodNamed B.named B.method).1
  subst hsz
  have hD := hD0.self (sz := s.heap.size)
  generalize hAe : va_A [(a_x, .inr (6, [.null, .null, .null, .long 0]))] s.heap.size = A at hD ⊢
  have hA : ∀ q : Nat, s.heap.size ≤ q → A q := fun q h => by rw [← hAe]; exact Or.inr h
  have hS : va_S A s.heap s.heap [] := va_S.rf
  obtain ⟨Q, hQ⟩ : ∃ Q : State → Prop, Q = MQ below (va_Qv (fun (u : Int64 × Int32 × Int32 × Int32 × (Nat → Int32) × (Nat → Int32) × (Nat → Int32) × Int32 × Int32 × Int32 × (Nat → Int32) × (Nat → Int32) × (Nat → Int32) × Nat × Nat × Nat × Nat × Nat × Nat × Nat × Nat × Nat × Nat) => K u.1 u.2.1 u.2.2.1 u.2.2.2.1 u.2.2.2.2.1 u.2.2.2.2.2.1 u.2.2.2.2.2.2.1 u.2.2.2.2.2.2.2.1 u.2.2.2.2.2.2.2.2.1 u.2.2.2.2.2.2.2.2.2.1 u.2.2.2.2.2.2.2.2.2.2.1 u.2.2.2.2.2.2.2.2.2.2.2.1 u.2.2.2.2.2.2.2.2.2.2.2.2.1) (poW (dC, dI) A (fun (u : Int64 × Int32 × Int32 × Int32 × (Nat → Int32) × (Nat → Int32) × (Nat → Int32) × Int32 × Int32 × Int32 × (Nat → Int32) × (Nat → Int32) × (Nat → Int32) × Nat × Nat × Nat × Nat × Nat × Nat × Nat × Nat × Nat × Nat) => [(a_x, .inr (6, [.ref u.2.2.2.2.2.2.2.2.2.2.2.2.2.1, .ref u.2.2.2.2.2.2.2.2.2.2.2.2.2.2.2.2.1, .ref u.2.2.2.2.2.2.2.2.2.2.2.2.2.2.2.2.2.2.2.1, .long u.1])), (u.2.2.2.2.2.2.2.2.2.2.2.2.2.1, .inr (3, [.int u.2.1, .ref u.2.2.2.2.2.2.2.2.2.2.2.2.2.2.1, .ref u.2.2.2.2.2.2.2.2.2.2.2.2.2.2.2.1])), (u.2.2.2.2.2.2.2.2.2.2.2.2.2.2.1, .inr (1, [.int u.2.2.1, .int u.2.2.2.1])), (u.2.2.2.2.2.2.2.2.2.2.2.2.2.2.2.1, .inl (kA, 41, .inl u.2.2.2.2.1)), (u.2.2.2.2.2.2.2.2.2.2.2.2.2.2.2.2.1, .inr (2, [.ref u.2.2.2.2.2.2.2.2.2.2.2.2.2.2.2.2.2.1, .ref u.2.2.2.2.2.2.2.2.2.2.2.2.2.2.2.2.2.2.1])), (u.2.2.2.2.2.2.2.2.2.2.2.2.2.2.2.2.2.1, .inl (kA, 42, .inl u.2.2.2.2.2.1)), (u.2.2.2.2.2.2.2.2.2.2.2.2.2.2.2.2.2.2.1, .inl (kA, 42, .inl u.2.2.2.2.2.2.1)), (u.2.2.2.2.2.2.2.2.2.2.2.2.2.2.2.2.2.2.2.1, .inr (5, [.int u.2.2.2.2.2.2.2.1, .int u.2.2.2.2.2.2.2.2.1, .ref u.2.2.2.2.2.2.2.2.2.2.2.2.2.2.2.2.2.2.2.2.1, .int u.2.2.2.2.2.2.2.2.2.1, .ref u.2.2.2.2.2.2.2.2.2.2.2.2.2.2.2.2.2.2.2.2.2.1, .ref u.2.2.2.2.2.2.2.2.2.2.2.2.2.2.2.2.2.2.2.2.2.2])), (u.2.2.2.2.2.2.2.2.2.2.2.2.2.2.2.2.2.2.2.2.1, .inl (kA, 16, .inl u.2.2.2.2.2.2.2.2.2.2.1)), (u.2.2.2.2.2.2.2.2.2.2.2.2.2.2.2.2.2.2.2.2.2.1, .inl (kA, 24, .inl u.2.2.2.2.2.2.2.2.2.2.2.1)), (u.2.2.2.2.2.2.2.2.2.2.2.2.2.2.2.2.2.2.2.2.2.2, .inl (kA, 256, .inl u.2.2.2.2.2.2.2.2.2.2.2.2.1))])) A) args s 10 434 A := ⟨_, rfl⟩
  rw [← hQ]
  have hP : va_P (dC, dI) vwCl [(a_x, .inr (6, [.null, .null, .null, .long 0]))] s.heap := hP
  refine en_ok hargs (Nat.le_of_ble_eq_true rfl) (fun ls hl => ?_)
  have hl : lv_has ls 1 [(0, .ref a_x)] := hl
  have h := hg
  unfold g_X6_init at h
  refine lv_aload_n hx hb dX6_init_0 rfl (lv_at hl 0 rfl) ?_
  refine W.objInit hx hb hown (hts (.methodLink RX6 1 objectInit) (List.mem_cons_of_mem _ (List.mem_append_left _ (List.mem_append_left _ (List.mem_append_left _ (List.mem_append_left _ (List.mem_append_left _ (List.mem_append_left _ (List.mem_append_left _ (List.mem_of_getElem? (i := 0) rfl)))))))))) (hts (.instanceMethod objectInit) (List.mem_cons_of_mem _ (List.mem_append_left _ (List.mem_append_left _ (List.mem_append_left _ (List.mem_append_left _ (List.mem_append_left _ (List.mem_append_left _ (List.mem_append_left _ (List.mem_of_getElem? (i := 1) rfl)))))))))) (hts (.code objectInit ⟨#[0xb1]⟩ 1 none) (List.mem_cons_of_mem _ (List.mem_append_left _ (List.mem_append_left _ (List.mem_append_left _ (List.mem_append_left _ (List.mem_append_left _ (List.mem_append_left _ (List.mem_append_left _ (List.mem_of_getElem? (i := 2) rfl)))))))))) rfl (by rw [hml]; exact hl.1) rfl dX6_init_1 (Nat.le_of_ble_eq_true rfl) (Nat.le_of_ble_eq_true rfl) ?_
  refine W.eq (g2 := F0 m 4 ls []) rfl ?_
  refine lv_aload_n hx hb dX6_init_4 rfl (lv_at hl 0 rfl) ?_
  refine va_new (ci := 3) (fs := [.int 0, .null, .null]) (C := RX3) (T := TX3) (N := 3) hx hb hts (fun _ h => List.mem_cons_of_mem _ (List.mem_append_left _ (List.mem_append_left _ (List.mem_append_left _ (List.mem_append_left _ (List.mem_append_left _ (List.mem_append_left _ (List.mem_append_right _ h)))))))) tyX3 tyX3_ok hown (hts (.classLink RX6 7 RX3) (List.mem_cons_of_mem _ (List.mem_append_left _ (List.mem_append_left _ (List.mem_append_left _ (List.mem_append_left _ (List.mem_append_left _ (List.mem_append_left _ (List.mem_append_left _ (List.mem_of_getElem? (i := 3) rfl)))))))))) (hts (.instantiable RX3 3) (List.mem_cons_of_mem _ (List.mem_append_left _ (List.mem_append_left _ (List.mem_append_left _ (List.mem_append_left _ (List.mem_append_left _ (List.mem_append_left _ (List.mem_append_left _ (List.mem_of_getElem? (i := 4) rfl)))))))))) (hts (.initialized RX3) (List.mem_cons_of_mem _ (List.mem_append_left _ (List.mem_append_left _ (List.mem_append_left _ (List.mem_append_left _ (List.mem_append_left _ (List.mem_append_left _ (List.mem_append_left _ (List.mem_of_getElem? (i := 5) rfl)))))))))) hK hP hD hS hA rfl (fun j hj => by rcases (show j = 0 ∨ j = 1 ∨ j = 2 by omega) with rfl | rfl | rfl <;> rfl) (Nat.le_of_ble_eq_true rfl) (Nat.le_of_ble_eq_true rfl) dX6_init_5 (fun q5 H hP hD hS => ?_)
  have hP : va_P (dC, dI) vwCl [(a_x, .inr (6, [.null, .null, .null, .long 0])), (q5, .inr (3, [.int 0, .null, .null]))] H := hP
  have hD : va_D A [(a_x, .inr (6, [.null, .null, .null, .long 0])), (q5, .inr (3, [.int 0, .null, .null]))] := hD
  refine lv_dup hx hb dX6_init_8 rfl ?_
  have hPc := hP.sub (ws' := [(q5, .inr (3, [.int 0, .null, .null]))]) [1] rfl
  have hDc := hD.sub (ws' := [(q5, .inr (3, [.int 0, .null, .null]))]) [1] (by decide) rfl
  refine fr_v (wr := [(a_x, .inr (6, [.null, .null, .null, .long 0]))]) (WN := fun (u9 : Int32 × Int32 × Int32 × (Nat → Int32) × Nat × Nat) => [(a_x, .inr (6, [.null, .null, .null, .long 0])), (q5, .inr (3, [.int u9.1, .ref u9.2.2.2.2.1, .ref u9.2.2.2.2.2])), (u9.2.2.2.2.1, .inr (1, [.int u9.2.1, .int u9.2.2.1])), (u9.2.2.2.2.2, .inl (kA, 41, .inl u9.2.2.2.1))]) (va_runI (As := []) (rest := [.ref q5, .ref a_x]) ⟨hx, hb, hml, hown, hts⟩ (c_X3_init l dC dI kA q5 H.size _ h) (cwI 0 hts gX6_init_X3_init rfl rfl rfl (hts (.initialized RX3) (List.mem_cons_of_mem _ (List.mem_append_left _ (List.mem_append_left _ (List.mem_append_left _ (List.mem_append_left _ (List.mem_append_left _ (List.mem_append_left _ (List.mem_append_left _ (List.mem_of_getElem? (i := 5) rfl)))))))))) (hts (.methodLink RX6 9 yX3_init) (List.mem_cons_of_mem _ (List.mem_append_left _ (List.mem_append_left _ (List.mem_append_left _ (List.mem_append_left _ (List.mem_append_left _ (List.mem_append_left _ (List.mem_append_left _ (List.mem_of_getElem? (i := 16) rfl)))))))))) (hts (.instanceMethod yX3_init) (List.mem_cons_of_mem _ (List.mem_append_left _ (List.mem_append_left _ (List.mem_append_left _ (List.mem_append_left _ (List.mem_append_left _ (List.mem_append_left _ (List.mem_append_left _ (List.mem_of_getElem? (i := 17) rfl)))))))))) rfl (by decide +kernel) ⟨Nat.le_of_ble_eq_true rfl, Nat.le_of_ble_eq_true rfl⟩) (prW.preS hPc hDc hK hN) rfl rfl hl.1 rfl (lv_room (Nat.le_of_ble_eq_true rfl)) dX6_init_9 ⟨Nat.le_of_ble_eq_true rfl, Nat.le_of_ble_eq_true rfl⟩) hP hD hS hA [1] [0] rfl rfl (by decide) (by decide) [0, 1, 2, 3] (by decide) (fun _ => rfl) (fun u9 H locs h hP hD hS => ?_)
  obtain ⟨y9_days', y9_tkd', y9_tkp', y9_rsF', q9_tk, q9_rs⟩ := u9
  have hP : va_P (dC, dI) vwCl [(a_x, .inr (6, [.null, .null, .null, .long 0])), (q5, .inr (3, [.int y9_days', .ref q9_tk, .ref q9_rs])), (q9_tk, .inr (1, [.int y9_tkd', .int y9_tkp'])), (q9_rs, .inl (kA, 41, .inl y9_rsF'))] H := hP
  have hD : va_D A [(a_x, .inr (6, [.null, .null, .null, .long 0])), (q5, .inr (3, [.int y9_days', .ref q9_tk, .ref q9_rs])), (q9_tk, .inr (1, [.int y9_tkd', .int y9_tkp'])), (q9_rs, .inl (kA, 41, .inl y9_rsF'))] := hD
  refine va_putF (D := (dC, dI)) (ci := 6) (v := .ref q5) (ty := (.object "RentOrBuy$Plans")) (C := RX6) (T := TX6) (N := 4) hx hb hts (fun _ h => List.mem_cons_of_mem _ (List.mem_append_left _ (List.mem_append_left _ (List.mem_append_left _ (List.mem_append_left _ (List.mem_append_left _ (List.mem_append_right _ h))))))) tyX6 tyX6_ok nmX6 hown hK hP hD hS 0 rfl rfl 0 (by decide) (hts (.fieldLink RX6 10 "RentOrBuy" "plans" "LRentOrBuy$Plans;") (List.mem_cons_of_mem _ (List.mem_append_left _ (List.mem_append_left _ (List.mem_append_left _ (List.mem_append_left _ (List.mem_append_left _ (List.mem_append_left _ (List.mem_append_left _ (List.mem_of_getElem? (i := 6) rfl)))))))))) (fun _ h9 => h9) rfl hin rfl (by decide +kernel) rfl rfl (Nat.le_of_ble_eq_true rfl) dX6_init_12 (fun H locs hP hD hS => ?_)
  have hP : va_P (dC, dI) vwCl [(a_x, .inr (6, [.ref q5, .null, .null, .long 0])), (q5, .inr (3, [.int y9_days', .ref q9_tk, .ref q9_rs])), (q9_tk, .inr (1, [.int y9_tkd', .int y9_tkp'])), (q9_rs, .inl (kA, 41, .inl y9_rsF'))] H := hP
  have hD : va_D A [(a_x, .inr (6, [.ref q5, .null, .null, .long 0])), (q5, .inr (3, [.int y9_days', .ref q9_tk, .ref q9_rs])), (q9_tk, .inr (1, [.int y9_tkd', .int y9_tkp'])), (q9_rs, .inl (kA, 41, .inl y9_rsF'))] := hD
  refine lv_aload_n hx hb dX6_init_15 rfl (lv_at hl 0 rfl) ?_
  refine va_new (ci := 2) (fs := [.null, .null]) (C := RX2) (T := TX2) (N := 2) hx hb hts (fun _ h => List.mem_cons_of_mem _ (List.mem_append_left _ (List.mem_append_left _ (List.mem_append_left _ (List.mem_append_left _ (List.mem_append_right _ h)))))) tyX2 tyX2_ok hown (hts (.classLink RX6 16 RX2) (List.mem_cons_of_mem _ (List.mem_append_left _ (List.mem_append_left _ (List.mem_append_left _ (List.mem_append_left _ (List.mem_append_left _ (List.mem_append_left _ (List.mem_append_left _ (List.mem_of_getElem? (i := 7) rfl)))))))))) (hts (.instantiable RX2 2) (List.mem_cons_of_mem _ (List.mem_append_left _ (List.mem_append_left _ (List.mem_append_left _ (List.mem_append_left _ (List.mem_append_left _ (List.mem_append_left _ (List.mem_append_left _ (List.mem_of_getElem? (i := 8) rfl)))))))))) (hts (.initialized RX2) (List.mem_cons_of_mem _ (List.mem_append_left _ (List.mem_append_left _ (List.mem_append_left _ (List.mem_append_left _ (List.mem_append_left _ (List.mem_append_left _ (List.mem_append_left _ (List.mem_of_getElem? (i := 9) rfl)))))))))) hK hP hD hS hA rfl (fun j hj => by rcases (show j = 0 ∨ j = 1 by omega) with rfl | rfl <;> rfl) (Nat.le_of_ble_eq_true rfl) (Nat.le_of_ble_eq_true rfl) dX6_init_16 (fun q16 H hP hD hS => ?_)
  have hP : va_P (dC, dI) vwCl [(a_x, .inr (6, [.ref q5, .null, .null, .long 0])), (q5, .inr (3, [.int y9_days', .ref q9_tk, .ref q9_rs])), (q9_tk, .inr (1, [.int y9_tkd', .int y9_tkp'])), (q9_rs, .inl (kA, 41, .inl y9_rsF')), (q16, .inr (2, [.null, .null]))] H := hP
  have hD : va_D A [(a_x, .inr (6, [.ref q5, .null, .null, .long 0])), (q5, .inr (3, [.int y9_days', .ref q9_tk, .ref q9_rs])), (q9_tk, .inr (1, [.int y9_tkd', .int y9_tkp'])), (q9_rs, .inl (kA, 41, .inl y9_rsF')), (q16, .inr (2, [.null, .null]))] := hD
  refine lv_dup hx hb dX6_init_19 rfl ?_
  have hPc := hP.sub (ws' := [(q16, .inr (2, [.null, .null]))]) [4] rfl
  have hDc := hD.sub (ws' := [(q16, .inr (2, [.null, .null]))]) [4] (by decide) rfl
  refine fr_v (wr := [(a_x, .inr (6, [.ref q5, .null, .null, .long 0])), (q5, .inr (3, [.int y9_days', .ref q9_tk, .ref q9_rs])), (q9_tk, .inr (1, [.int y9_tkd', .int y9_tkp'])), (q9_rs, .inl (kA, 41, .inl y9_rsF'))]) (WN := fun (u20 : (Nat → Int32) × (Nat → Int32) × Nat × Nat) => [(a_x, .inr (6, [.ref q5, .null, .null, .long 0])), (q5, .inr (3, [.int y9_days', .ref q9_tk, .ref q9_rs])), (q9_tk, .inr (1, [.int y9_tkd', .int y9_tkp'])), (q9_rs, .inl (kA, 41, .inl y9_rsF')), (q16, .inr (2, [.ref u20.2.2.1, .ref u20.2.2.2])), (u20.2.2.1, .inl (kA, 42, .inl u20.1)), (u20.2.2.2, .inl (kA, 42, .inl u20.2.1))]) (va_runI (As := []) (rest := [.ref q16, .ref a_x]) ⟨hx, hb, hml, hown, hts⟩ (c_X2_init l dC dI kA q16 H.size _ h) (cwI 0 hts gX6_init_X2_init rfl rfl rfl (hts (.initialized RX2) (List.mem_cons_of_mem _ (List.mem_append_left _ (List.mem_append_left _ (List.mem_append_left _ (List.mem_append_left _ (List.mem_append_left _ (List.mem_append_left _ (List.mem_append_left _ (List.mem_of_getElem? (i := 9) rfl)))))))))) (hts (.methodLink RX6 18 yX2_init) (List.mem_cons_of_mem _ (List.mem_append_left _ (List.mem_append_left _ (List.mem_append_left _ (List.mem_append_left _ (List.mem_append_left _ (List.mem_append_left _ (List.mem_append_left _ (List.mem_of_getElem? (i := 33) rfl)))))))))) (hts (.instanceMethod yX2_init) (List.mem_cons_of_mem _ (List.mem_append_left _ (List.mem_append_left _ (List.mem_append_left _ (List.mem_append_left _ (List.mem_append_left _ (List.mem_append_left _ (List.mem_append_left _ (List.mem_of_getElem? (i := 34) rfl)))))))))) rfl (by decide +kernel) ⟨Nat.le_of_ble_eq_true rfl, Nat.le_of_ble_eq_true rfl⟩) (prW.preS hPc hDc hK hN) rfl rfl hl.1 rfl (lv_room (Nat.le_of_ble_eq_true rfl)) dX6_init_20 ⟨Nat.le_of_ble_eq_true rfl, Nat.le_of_ble_eq_true rfl⟩) hP hD hS hA [4] [0, 1, 2, 3] rfl rfl (by decide) (by decide) [0, 1, 2, 3, 4, 5, 6] (by decide) (fun _ => rfl) (fun u20 H locs h hP hD hS => ?_)
  obtain ⟨y20_opF', y20_oeF', q20_op, q20_oe⟩ := u20
  have hP : va_P (dC, dI) vwCl [(a_x, .inr (6, [.ref q5, .null, .null, .long 0])), (q5, .inr (3, [.int y9_days', .ref q9_tk, .ref q9_rs])), (q9_tk, .inr (1, [.int y9_tkd', .int y9_tkp'])), (q9_rs, .inl (kA, 41, .inl y9_rsF')), (q16, .inr (2, [.ref q20_op, .ref q20_oe])), (q20_op, .inl (kA, 42, .inl y20_opF')), (q20_oe, .inl (kA, 42, .inl y20_oeF'))] H := hP
  have hD : va_D A [(a_x, .inr (6, [.ref q5, .null, .null, .long 0])), (q5, .inr (3, [.int y9_days', .ref q9_tk, .ref q9_rs])), (q9_tk, .inr (1, [.int y9_tkd', .int y9_tkp'])), (q9_rs, .inl (kA, 41, .inl y9_rsF')), (q16, .inr (2, [.ref q20_op, .ref q20_oe])), (q20_op, .inl (kA, 42, .inl y20_opF')), (q20_oe, .inl (kA, 42, .inl y20_oeF'))] := hD
  refine va_putF (D := (dC, dI)) (ci := 6) (v := .ref q16) (ty := (.object "RentOrBuy$Lots")) (C := RX6) (T := TX6) (N := 4) hx hb hts (fun _ h => List.mem_cons_of_mem _ (List.mem_append_left _ (List.mem_append_left _ (List.mem_append_left _ (List.mem_append_left _ (List.mem_append_left _ (List.mem_append_right _ h))))))) tyX6 tyX6_ok nmX6 hown hK hP hD hS 0 rfl rfl 1 (by decide) (hts (.fieldLink RX6 19 "RentOrBuy" "lots" "LRentOrBuy$Lots;") (List.mem_cons_of_mem _ (List.mem_append_left _ (List.mem_append_left _ (List.mem_append_left _ (List.mem_append_left _ (List.mem_append_left _ (List.mem_append_left _ (List.mem_append_left _ (List.mem_of_getElem? (i := 10) rfl)))))))))) (fun _ h9 => h9) rfl hin rfl (by decide +kernel) rfl rfl (Nat.le_of_ble_eq_true rfl) dX6_init_23 (fun H locs hP hD hS => ?_)
  have hP : va_P (dC, dI) vwCl [(a_x, .inr (6, [.ref q5, .ref q16, .null, .long 0])), (q5, .inr (3, [.int y9_days', .ref q9_tk, .ref q9_rs])), (q9_tk, .inr (1, [.int y9_tkd', .int y9_tkp'])), (q9_rs, .inl (kA, 41, .inl y9_rsF')), (q16, .inr (2, [.ref q20_op, .ref q20_oe])), (q20_op, .inl (kA, 42, .inl y20_opF')), (q20_oe, .inl (kA, 42, .inl y20_oeF'))] H := hP
  have hD : va_D A [(a_x, .inr (6, [.ref q5, .ref q16, .null, .long 0])), (q5, .inr (3, [.int y9_days', .ref q9_tk, .ref q9_rs])), (q9_tk, .inr (1, [.int y9_tkd', .int y9_tkp'])), (q9_rs, .inl (kA, 41, .inl y9_rsF')), (q16, .inr (2, [.ref q20_op, .ref q20_oe])), (q20_op, .inl (kA, 42, .inl y20_opF')), (q20_oe, .inl (kA, 42, .inl y20_oeF'))] := hD
  refine lv_aload_n hx hb dX6_init_26 rfl (lv_at hl 0 rfl) ?_
  refine va_new (ci := 5) (fs := [.int 0, .int 0, .null, .int 0, .null, .null]) (C := RX5) (T := TX5) (N := 6) hx hb hts (fun _ h => List.mem_cons_of_mem _ (List.mem_append_left _ (List.mem_append_left _ (List.mem_append_left _ (List.mem_append_right _ h))))) tyX5 tyX5_ok hown (hts (.classLink RX6 23 RX5) (List.mem_cons_of_mem _ (List.mem_append_left _ (List.mem_append_left _ (List.mem_append_left _ (List.mem_append_left _ (List.mem_append_left _ (List.mem_append_left _ (List.mem_append_left _ (List.mem_of_getElem? (i := 11) rfl)))))))))) (hts (.instantiable RX5 6) (List.mem_cons_of_mem _ (List.mem_append_left _ (List.mem_append_left _ (List.mem_append_left _ (List.mem_append_left _ (List.mem_append_left _ (List.mem_append_left _ (List.mem_append_left _ (List.mem_of_getElem? (i := 12) rfl)))))))))) (hts (.initialized RX5) (List.mem_cons_of_mem _ (List.mem_append_left _ (List.mem_append_left _ (List.mem_append_left _ (List.mem_append_left _ (List.mem_append_left _ (List.mem_append_left _ (List.mem_append_left _ (List.mem_of_getElem? (i := 13) rfl)))))))))) hK hP hD hS hA rfl (fun j hj => by rcases (show j = 0 ∨ j = 1 ∨ j = 2 ∨ j = 3 ∨ j = 4 ∨ j = 5 by omega) with rfl | rfl | rfl | rfl | rfl | rfl <;> rfl) (Nat.le_of_ble_eq_true rfl) (Nat.le_of_ble_eq_true rfl) dX6_init_27 (fun q27 H hP hD hS => ?_)
  have hP : va_P (dC, dI) vwCl [(a_x, .inr (6, [.ref q5, .ref q16, .null, .long 0])), (q5, .inr (3, [.int y9_days', .ref q9_tk, .ref q9_rs])), (q9_tk, .inr (1, [.int y9_tkd', .int y9_tkp'])), (q9_rs, .inl (kA, 41, .inl y9_rsF')), (q16, .inr (2, [.ref q20_op, .ref q20_oe])), (q20_op, .inl (kA, 42, .inl y20_opF')), (q20_oe, .inl (kA, 42, .inl y20_oeF')), (q27, .inr (5, [.int 0, .int 0, .null, .int 0, .null, .null]))] H := hP
  have hD : va_D A [(a_x, .inr (6, [.ref q5, .ref q16, .null, .long 0])), (q5, .inr (3, [.int y9_days', .ref q9_tk, .ref q9_rs])), (q9_tk, .inr (1, [.int y9_tkd', .int y9_tkp'])), (q9_rs, .inl (kA, 41, .inl y9_rsF')), (q16, .inr (2, [.ref q20_op, .ref q20_oe])), (q20_op, .inl (kA, 42, .inl y20_opF')), (q20_oe, .inl (kA, 42, .inl y20_oeF')), (q27, .inr (5, [.int 0, .int 0, .null, .int 0, .null, .null]))] := hD
  refine lv_dup hx hb dX6_init_30 rfl ?_
  have hPc := hP.sub (ws' := [(q27, .inr (5, [.int 0, .int 0, .null, .int 0, .null, .null]))]) [7] rfl
  have hDc := hD.sub (ws' := [(q27, .inr (5, [.int 0, .int 0, .null, .int 0, .null, .null]))]) [7] (by decide) rfl
  refine fr_v (wr := [(a_x, .inr (6, [.ref q5, .ref q16, .null, .long 0])), (q5, .inr (3, [.int y9_days', .ref q9_tk, .ref q9_rs])), (q9_tk, .inr (1, [.int y9_tkd', .int y9_tkp'])), (q9_rs, .inl (kA, 41, .inl y9_rsF')), (q16, .inr (2, [.ref q20_op, .ref q20_oe])), (q20_op, .inl (kA, 42, .inl y20_opF')), (q20_oe, .inl (kA, 42, .inl y20_oeF'))]) (WN := fun (u31 : Int32 × Int32 × Int32 × (Nat → Int32) × (Nat → Int32) × (Nat → Int32) × Nat × Nat × Nat) => [(a_x, .inr (6, [.ref q5, .ref q16, .null, .long 0])), (q5, .inr (3, [.int y9_days', .ref q9_tk, .ref q9_rs])), (q9_tk, .inr (1, [.int y9_tkd', .int y9_tkp'])), (q9_rs, .inl (kA, 41, .inl y9_rsF')), (q16, .inr (2, [.ref q20_op, .ref q20_oe])), (q20_op, .inl (kA, 42, .inl y20_opF')), (q20_oe, .inl (kA, 42, .inl y20_oeF')), (q27, .inr (5, [.int u31.1, .int u31.2.1, .ref u31.2.2.2.2.2.2.1, .int u31.2.2.1, .ref u31.2.2.2.2.2.2.2.1, .ref u31.2.2.2.2.2.2.2.2])), (u31.2.2.2.2.2.2.1, .inl (kA, 16, .inl u31.2.2.2.1)), (u31.2.2.2.2.2.2.2.1, .inl (kA, 24, .inl u31.2.2.2.2.1)), (u31.2.2.2.2.2.2.2.2, .inl (kA, 256, .inl u31.2.2.2.2.2.1))]) (va_runI (As := []) (rest := [.ref q27, .ref a_x]) ⟨hx, hb, hml, hown, hts⟩ (c_X5_init l dC dI kA q27 H.size _ h) (cwI 0 hts gX6_init_X5_init rfl rfl rfl (hts (.initialized RX5) (List.mem_cons_of_mem _ (List.mem_append_left _ (List.mem_append_left _ (List.mem_append_left _ (List.mem_append_left _ (List.mem_append_left _ (List.mem_append_left _ (List.mem_append_left _ (List.mem_of_getElem? (i := 13) rfl)))))))))) (hts (.methodLink RX6 25 yX5_init) (List.mem_cons_of_mem _ (List.mem_append_left _ (List.mem_append_left _ (List.mem_append_left _ (List.mem_append_left _ (List.mem_append_left _ (List.mem_append_left _ (List.mem_append_left _ (List.mem_of_getElem? (i := 39) rfl)))))))))) (hts (.instanceMethod yX5_init) (List.mem_cons_of_mem _ (List.mem_append_left _ (List.mem_append_left _ (List.mem_append_left _ (List.mem_append_left _ (List.mem_append_left _ (List.mem_append_left _ (List.mem_append_left _ (List.mem_of_getElem? (i := 40) rfl)))))))))) rfl (by decide +kernel) ⟨Nat.le_of_ble_eq_true rfl, Nat.le_of_ble_eq_true rfl⟩) (prW.preS hPc hDc hK hN) rfl rfl hl.1 rfl (lv_room (Nat.le_of_ble_eq_true rfl)) dX6_init_31 ⟨Nat.le_of_ble_eq_true rfl, Nat.le_of_ble_eq_true rfl⟩) hP hD hS hA [7] [0, 1, 2, 3, 4, 5, 6] rfl rfl (by decide) (by decide) [0, 1, 2, 3, 4, 5, 6, 7, 8, 9, 10] (by decide) (fun _ => rfl) (fun u31 H locs h hP hD hS => ?_)
  obtain ⟨y31_thg', y31_req', y31_ocn', y31_akF', y31_osF', y31_leF', q31_ak, q31_os, q31_le⟩ := u31
  have hP : va_P (dC, dI) vwCl [(a_x, .inr (6, [.ref q5, .ref q16, .null, .long 0])), (q5, .inr (3, [.int y9_days', .ref q9_tk, .ref q9_rs])), (q9_tk, .inr (1, [.int y9_tkd', .int y9_tkp'])), (q9_rs, .inl (kA, 41, .inl y9_rsF')), (q16, .inr (2, [.ref q20_op, .ref q20_oe])), (q20_op, .inl (kA, 42, .inl y20_opF')), (q20_oe, .inl (kA, 42, .inl y20_oeF')), (q27, .inr (5, [.int y31_thg', .int y31_req', .ref q31_ak, .int y31_ocn', .ref q31_os, .ref q31_le])), (q31_ak, .inl (kA, 16, .inl y31_akF')), (q31_os, .inl (kA, 24, .inl y31_osF')), (q31_le, .inl (kA, 256, .inl y31_leF'))] H := hP
  have hD : va_D A [(a_x, .inr (6, [.ref q5, .ref q16, .null, .long 0])), (q5, .inr (3, [.int y9_days', .ref q9_tk, .ref q9_rs])), (q9_tk, .inr (1, [.int y9_tkd', .int y9_tkp'])), (q9_rs, .inl (kA, 41, .inl y9_rsF')), (q16, .inr (2, [.ref q20_op, .ref q20_oe])), (q20_op, .inl (kA, 42, .inl y20_opF')), (q20_oe, .inl (kA, 42, .inl y20_oeF')), (q27, .inr (5, [.int y31_thg', .int y31_req', .ref q31_ak, .int y31_ocn', .ref q31_os, .ref q31_le])), (q31_ak, .inl (kA, 16, .inl y31_akF')), (q31_os, .inl (kA, 24, .inl y31_osF')), (q31_le, .inl (kA, 256, .inl y31_leF'))] := hD
  refine va_putF (D := (dC, dI)) (ci := 6) (v := .ref q27) (ty := (.object "RentOrBuy$Shelf")) (C := RX6) (T := TX6) (N := 4) hx hb hts (fun _ h => List.mem_cons_of_mem _ (List.mem_append_left _ (List.mem_append_left _ (List.mem_append_left _ (List.mem_append_left _ (List.mem_append_left _ (List.mem_append_right _ h))))))) tyX6 tyX6_ok nmX6 hown hK hP hD hS 0 rfl rfl 2 (by decide) (hts (.fieldLink RX6 26 "RentOrBuy" "shelf" "LRentOrBuy$Shelf;") (List.mem_cons_of_mem _ (List.mem_append_left _ (List.mem_append_left _ (List.mem_append_left _ (List.mem_append_left _ (List.mem_append_left _ (List.mem_append_left _ (List.mem_append_left _ (List.mem_of_getElem? (i := 14) rfl)))))))))) (fun _ h9 => h9) rfl hin rfl (by decide +kernel) rfl rfl (Nat.le_of_ble_eq_true rfl) dX6_init_34 (fun H locs hP hD hS => ?_)
  have hP : va_P (dC, dI) vwCl [(a_x, .inr (6, [.ref q5, .ref q16, .ref q27, .long 0])), (q5, .inr (3, [.int y9_days', .ref q9_tk, .ref q9_rs])), (q9_tk, .inr (1, [.int y9_tkd', .int y9_tkp'])), (q9_rs, .inl (kA, 41, .inl y9_rsF')), (q16, .inr (2, [.ref q20_op, .ref q20_oe])), (q20_op, .inl (kA, 42, .inl y20_opF')), (q20_oe, .inl (kA, 42, .inl y20_oeF')), (q27, .inr (5, [.int y31_thg', .int y31_req', .ref q31_ak, .int y31_ocn', .ref q31_os, .ref q31_le])), (q31_ak, .inl (kA, 16, .inl y31_akF')), (q31_os, .inl (kA, 24, .inl y31_osF')), (q31_le, .inl (kA, 256, .inl y31_leF'))] H := hP
  have hD : va_D A [(a_x, .inr (6, [.ref q5, .ref q16, .ref q27, .long 0])), (q5, .inr (3, [.int y9_days', .ref q9_tk, .ref q9_rs])), (q9_tk, .inr (1, [.int y9_tkd', .int y9_tkp'])), (q9_rs, .inl (kA, 41, .inl y9_rsF')), (q16, .inr (2, [.ref q20_op, .ref q20_oe])), (q20_op, .inl (kA, 42, .inl y20_opF')), (q20_oe, .inl (kA, 42, .inl y20_oeF')), (q27, .inr (5, [.int y31_thg', .int y31_req', .ref q31_ak, .int y31_ocn', .ref q31_os, .ref q31_le])), (q31_ak, .inl (kA, 16, .inl y31_akF')), (q31_os, .inl (kA, 24, .inl y31_osF')), (q31_le, .inl (kA, 256, .inl y31_leF'))] := hD
  refine lv_aload_n hx hb dX6_init_37 rfl (lv_at hl 0 rfl) ?_
  refine lv_lconst (v := (0 : Int64)) hx hb dX6_init_38 (by decide +kernel) ?_
  refine va_put (D := (dC, dI)) (ci := 6) (v := .long (0 : Int64)) (ty := .long) (C := RX6) (T := TX6) (N := 4) hx hb hts (fun _ h => List.mem_cons_of_mem _ (List.mem_append_left _ (List.mem_append_left _ (List.mem_append_left _ (List.mem_append_left _ (List.mem_append_left _ (List.mem_append_right _ h))))))) tyX6 tyX6_ok nmX6 hown hK hP hD hS 0 rfl rfl 3 (by decide) (hts (.fieldLink RX6 30 "RentOrBuy" "traced" "J") (List.mem_cons_of_mem _ (List.mem_append_left _ (List.mem_append_left _ (List.mem_append_left _ (List.mem_append_left _ (List.mem_append_left _ (List.mem_append_left _ (List.mem_append_left _ (List.mem_of_getElem? (i := 15) rfl)))))))))) (fun _ h9 => h9) rfl (by decide +kernel) rfl rfl (Nat.le_of_ble_eq_true rfl) dX6_init_39 (fun H locs hP hD hS => ?_)
  have hP : va_P (dC, dI) vwCl [(a_x, .inr (6, [.ref q5, .ref q16, .ref q27, .long (0 : Int64)])), (q5, .inr (3, [.int y9_days', .ref q9_tk, .ref q9_rs])), (q9_tk, .inr (1, [.int y9_tkd', .int y9_tkp'])), (q9_rs, .inl (kA, 41, .inl y9_rsF')), (q16, .inr (2, [.ref q20_op, .ref q20_oe])), (q20_op, .inl (kA, 42, .inl y20_opF')), (q20_oe, .inl (kA, 42, .inl y20_oeF')), (q27, .inr (5, [.int y31_thg', .int y31_req', .ref q31_ak, .int y31_ocn', .ref q31_os, .ref q31_le])), (q31_ak, .inl (kA, 16, .inl y31_akF')), (q31_os, .inl (kA, 24, .inl y31_osF')), (q31_le, .inl (kA, 256, .inl y31_leF'))] H := hP
  have hD : va_D A [(a_x, .inr (6, [.ref q5, .ref q16, .ref q27, .long (0 : Int64)])), (q5, .inr (3, [.int y9_days', .ref q9_tk, .ref q9_rs])), (q9_tk, .inr (1, [.int y9_tkd', .int y9_tkp'])), (q9_rs, .inl (kA, 41, .inl y9_rsF')), (q16, .inr (2, [.ref q20_op, .ref q20_oe])), (q20_op, .inl (kA, 42, .inl y20_opF')), (q20_oe, .inl (kA, 42, .inl y20_oeF')), (q27, .inr (5, [.int y31_thg', .int y31_req', .ref q31_ak, .int y31_ocn', .ref q31_os, .ref q31_le])), (q31_ak, .inl (kA, 16, .inl y31_akF')), (q31_os, .inl (kA, 24, .inl y31_osF')), (q31_le, .inl (kA, 256, .inl y31_leF'))] := hD
  rw [hQ]
  exact rt_v ((0 : Int64), y9_days', y9_tkd', y9_tkp', y9_rsF', y20_opF', y20_oeF', y31_thg', y31_req', y31_ocn', y31_akF', y31_osF', y31_leF', q5, q9_tk, q9_rs, q16, q20_op, q20_oe, q27, q31_ak, q31_os, q31_le) hx hb hr hlocks h hP hD hS dX6_init_42

/-- RentOrBuy.known -/
def rmX6_known : Room := { frames := 2, cells := 0, slots := 0, locals := 43 }
set_option maxHeartbeats 4000000 in
set_option maxRecDepth 100000 in
theorem c_X6_known (l : Launch) (dC : Nat → ClassId) (dI : Nat → Nat → Nat) (kA : ClassId) (a_x a_pl a_tk a_rs a_lo a_sh : Nat) (sz : Nat) (trc : Int64) (days : Int32) (tkk : Nat) (tkd : Int32) (tkp : Int32) (tkr : Int32) (tkc : Int32) (rsF : Nat → Int32) (p1 : Int32) (K : Int32 → Prop) (hg : g_X6_known trc days tkk tkd tkp tkr tkc rsF p1 K) : Met l yX6_known wsX6_known rmX6_known (va_Pc [.ref a_x, .int p1] (prW (dC, dI) kA sz [(a_x, .inr (6, [.ref a_pl, .ref a_lo, .ref a_sh, .long trc])), (a_pl, .inr (3, [.int days, .ref a_tk, .ref a_rs])), (a_tk, tkE tkk tkd tkp tkr tkc), (a_rs, .inl (kA, 41, .inl rsF))])) (va_Qi (fun (r : Int32) (u : Unit) => K r) (poW (dC, dI) (va_A [(a_x, .inr (6, [.ref a_pl, .ref a_lo, .ref a_sh, .long trc])), (a_pl, .inr (3, [.int days, .ref a_tk, .ref a_rs])), (a_tk, tkE tkk tkd tkp tkr tkc), (a_rs, .inl (kA, 41, .inl rsF))] sz) (fun (u : Unit) => [(a_x, .inr (6, [.ref a_pl, .ref a_lo, .ref a_sh, .long trc])), (a_pl, .inr (3, [.int days, .ref a_tk, .ref a_rs])), (a_tk, tkE tkk tkd tkp tkr tkc), (a_rs, .inl (kA, 41, .inl rsF))])) (va_A [(a_x, .inr (6, [.ref a_pl, .ref a_lo, .ref a_sh, .long trc])), (a_pl, .inr (3, [.int days, .ref a_tk, .ref a_rs])), (a_tk, tkE tkk tkd tkp tkr tkc), (a_rs, .inl (kA, 41, .inl rsF))] sz)) 0 0 (va_A [(a_x, .inr (6, [.ref a_pl, .ref a_lo, .ref a_sh, .long trc])), (a_pl, .inr (3, [.int days, .ref a_tk, .ref a_rs])), (a_tk, tkE tkk tkd tkp tkr tkc), (a_rs, .inl (kA, 41, .inl rsF))] sz) := by
  refine Met.ofW (cc := cX6_known) (maxL := 2) (ret := (some .int)) (by decide) rfl ?_
  intro p e s m args below meth c s₁ B hml hv
  obtain ⟨hargs, hsz, hP, hK, hD0, hN⟩ := hv
  have hx := B.exec
  have hb := B.bytes
  have hr := B.returns
  have hts := atoms_spec (ws := wsX6_known) B.pre
  have hown : s.vm.findClass RX6 = some m.cls := findClass_of_methodNamed B.named
  have hlocks := B.notSynchronized
  subst hsz
  have hD := hD0.self (sz := s.heap.size)
  generalize hAe : va_A [(a_x, .inr (6, [.ref a_pl, .ref a_lo, .ref a_sh, .long trc])), (a_pl, .inr (3, [.int days, .ref a_tk, .ref a_rs])), (a_tk, tkE tkk tkd tkp tkr tkc), (a_rs, .inl (kA, 41, .inl rsF))] s.heap.size = A at hD ⊢
  have hA : ∀ q : Nat, s.heap.size ≤ q → A q := fun q h => by rw [← hAe]; exact Or.inr h
  have hS : va_S A s.heap s.heap [] := va_S.rf
  obtain ⟨Q, hQ⟩ : ∃ Q : State → Prop, Q = MQ below (va_Qi (fun (r : Int32) (u : Unit) => K r) (poW (dC, dI) A (fun (u : Unit) => [(a_x, .inr (6, [.ref a_pl, .ref a_lo, .ref a_sh, .long trc])), (a_pl, .inr (3, [.int days, .ref a_tk, .ref a_rs])), (a_tk, tkE tkk tkd tkp tkr tkc), (a_rs, .inl (kA, 41, .inl rsF))])) A) args s 0 0 A := ⟨_, rfl⟩
  rw [← hQ]
  have hP : va_P (dC, dI) vwCl [(a_x, .inr (6, [.ref a_pl, .ref a_lo, .ref a_sh, .long trc])), (a_pl, .inr (3, [.int days, .ref a_tk, .ref a_rs])), (a_tk, tkE tkk tkd tkp tkr tkc), (a_rs, .inl (kA, 41, .inl rsF))] s.heap := hP
  refine en_ok hargs (Nat.le_of_ble_eq_true rfl) (fun ls hl => ?_)
  have hl : lv_has ls 2 [(0, .ref a_x), (1, .int p1)] := hl
  have h := hg
  unfold g_X6_known at h
  refine lv_aload_n hx hb dX6_known_0 rfl (lv_at hl 0 rfl) ?_
  refine va_get (D := (dC, dI)) (ci := 6) (v := .ref a_pl) (C := RX6) (T := TX6) (N := 4) hx hb hts (fun _ h => List.mem_cons_of_mem _ (List.mem_append_left _ (List.mem_append_left _ (List.mem_append_left _ (List.mem_append_left _ (List.mem_append_right _ h)))))) hown hK hP 0 rfl rfl 0 (by decide) (hts (.fieldLink RX6 10 "RentOrBuy" "plans" "LRentOrBuy$Plans;") (List.mem_cons_of_mem _ (List.mem_append_left _ (List.mem_append_left _ (List.mem_append_left _ (List.mem_append_left _ (List.mem_append_left _ (List.mem_of_getElem? (i := 0) rfl)))))))) (fun _ h9 => h9) rfl dX6_known_1 ?_
  refine lv_iload_n hx hb dX6_known_4 rfl (lv_at hl 1 rfl) ?_
  have hPc := hP.sub (ws' := [(a_pl, .inr (3, [.int days, .ref a_tk, .ref a_rs]))]) [1] rfl
  have hDc := hD.sub (ws' := [(a_pl, .inr (3, [.int days, .ref a_tk, .ref a_rs]))]) [1] (by decide) rfl
  refine fr_i (wr := [(a_x, .inr (6, [.ref a_pl, .ref a_lo, .ref a_sh, .long trc])), (a_tk, tkE tkk tkd tkp tkr tkc), (a_rs, .inl (kA, 41, .inl rsF))]) (WN := fun (u5 : Unit) => [(a_x, .inr (6, [.ref a_pl, .ref a_lo, .ref a_sh, .long trc])), (a_pl, .inr (3, [.int days, .ref a_tk, .ref a_rs])), (a_tk, tkE tkk tkd tkp tkr tkc), (a_rs, .inl (kA, 41, .inl rsF))]) (va_runV (As := [.int p1]) (rest := []) ⟨hx, hb, hml, hown, hts⟩ (c_X3_isEnd l dC dI kA a_pl a_tk a_rs s.heap.size days p1 _ h) (cwV 1 hts gX6_known_X3_isEnd rfl rfl rfl (by decide +kernel) ⟨Nat.le_of_ble_eq_true rfl, Nat.le_of_ble_eq_true rfl⟩) (prW.preV (ci := 3) (q0 := 0) hPc hDc hK hN rfl rfl) rfl rfl hl.1 rfl (lv_room (Nat.le_of_ble_eq_true rfl)) dX6_known_5 ⟨Nat.le_of_ble_eq_true rfl, Nat.le_of_ble_eq_true rfl⟩) hP hD hS hA [1] [0, 2, 3] rfl rfl (by decide) (by decide) [0, 3, 1, 2] (by decide) (fun _ => rfl) (fun r5 u5 H locs h hP hD hS => ?_)
  have hP : va_P (dC, dI) vwCl [(a_x, .inr (6, [.ref a_pl, .ref a_lo, .ref a_sh, .long trc])), (a_pl, .inr (3, [.int days, .ref a_tk, .ref a_rs])), (a_tk, tkE tkk tkd tkp tkr tkc), (a_rs, .inl (kA, 41, .inl rsF))] H := hP
  have hD : va_D A [(a_x, .inr (6, [.ref a_pl, .ref a_lo, .ref a_sh, .long trc])), (a_pl, .inr (3, [.int days, .ref a_tk, .ref a_rs])), (a_tk, tkE tkk tkd tkp tkr tkc), (a_rs, .inl (kA, 41, .inl rsF))] := hD
  refine lv_if_ne (tgt := 13) hx hb dX6_known_8 (by decide) (fun c8 => ?_) (fun c8 => ?_)
  · replace h := h.1 c8
    refine lv_aload_n hx hb dX6_known_13 rfl (lv_at hl 0 rfl) ?_
    refine va_get (D := (dC, dI)) (ci := 6) (v := .ref a_pl) (C := RX6) (T := TX6) (N := 4) hx hb hts (fun _ h => List.mem_cons_of_mem _ (List.mem_append_left _ (List.mem_append_left _ (List.mem_append_left _ (List.mem_append_left _ (List.mem_append_right _ h)))))) hown hK hP 0 rfl rfl 0 (by decide) (hts (.fieldLink RX6 10 "RentOrBuy" "plans" "LRentOrBuy$Plans;") (List.mem_cons_of_mem _ (List.mem_append_left _ (List.mem_append_left _ (List.mem_append_left _ (List.mem_append_left _ (List.mem_append_left _ (List.mem_of_getElem? (i := 0) rfl)))))))) (fun _ h9 => h9) rfl dX6_known_14 ?_
    refine lv_iload_n hx hb dX6_known_17 rfl (lv_at hl 1 rfl) ?_
    have hPc := hP.sub (ws' := [(a_pl, .inr (3, [.int days, .ref a_tk, .ref a_rs])), (a_tk, tkE tkk tkd tkp tkr tkc), (a_rs, .inl (kA, 41, .inl rsF))]) [1, 2, 3] rfl
    have hDc := hD.sub (ws' := [(a_pl, .inr (3, [.int days, .ref a_tk, .ref a_rs])), (a_tk, tkE tkk tkd tkp tkr tkc), (a_rs, .inl (kA, 41, .inl rsF))]) [1, 2, 3] (by decide) rfl
    refine fr_i (wr := [(a_x, .inr (6, [.ref a_pl, .ref a_lo, .ref a_sh, .long trc]))]) (WN := fun (u18 : Unit) => [(a_x, .inr (6, [.ref a_pl, .ref a_lo, .ref a_sh, .long trc])), (a_pl, .inr (3, [.int days, .ref a_tk, .ref a_rs])), (a_tk, tkE tkk tkd tkp tkr tkc), (a_rs, .inl (kA, 41, .inl rsF))]) (va_runV (As := [.int p1]) (rest := []) ⟨hx, hb, hml, hown, hts⟩ (c_X3_knownBy l dC dI kA a_pl a_tk a_rs H.size days tkk tkd tkp tkr tkc rsF p1 _ h) (cwV 1 hts gX6_known_X3_knownBy rfl rfl rfl (by decide +kernel) ⟨Nat.le_of_ble_eq_true rfl, Nat.le_of_ble_eq_true rfl⟩) (prW.preV (ci := 3) (q0 := 0) hPc hDc hK hN rfl rfl) rfl rfl hl.1 rfl (lv_room (Nat.le_of_ble_eq_true rfl)) dX6_known_18 ⟨Nat.le_of_ble_eq_true rfl, Nat.le_of_ble_eq_true rfl⟩) hP hD hS hA [1, 2, 3] [0] rfl rfl (by decide) (by decide) [0, 1, 2, 3] (by decide) (fun _ => rfl) (fun r18 u18 H locs h hP hD hS => ?_)
    have hP : va_P (dC, dI) vwCl [(a_x, .inr (6, [.ref a_pl, .ref a_lo, .ref a_sh, .long trc])), (a_pl, .inr (3, [.int days, .ref a_tk, .ref a_rs])), (a_tk, tkE tkk tkd tkp tkr tkc), (a_rs, .inl (kA, 41, .inl rsF))] H := hP
    have hD : va_D A [(a_x, .inr (6, [.ref a_pl, .ref a_lo, .ref a_sh, .long trc])), (a_pl, .inr (3, [.int days, .ref a_tk, .ref a_rs])), (a_tk, tkE tkk tkd tkp tkr tkc), (a_rs, .inl (kA, 41, .inl rsF))] := hD
    rw [hQ]
    exact rt_i () hx hb hr hlocks h hP hD hS dX6_known_21
  · replace h := h.2 c8
    refine lv_iconst (v := (-1 : Int32)) hx hb dX6_known_11 (by decide +kernel) ?_
    rw [hQ]
    exact rt_i () hx hb hr hlocks h hP hD hS dX6_known_12

/-- RentOrBuy.list -/
def rmX6_list : Room := { frames := 4, cells := 0, slots := 0, locals := 86 }
set_option maxHeartbeats 4000000 in
set_option maxRecDepth 100000 in
theorem c_X6_list (l : Launch) (dC : Nat → ClassId) (dI : Nat → Nat → Nat) (kA : ClassId) (a_x a_sh a_os a_pl a_lo a_ak a_le : Nat) (sz : Nat) (trc : Int64) (thg : Int32) (req : Int32) (ocn : Int32) (osF : Nat → Int32) (p1 : Int32) (K : Int32 → Int32 → Int32 → Int32 → (Nat → Int32) → Prop) (hg : g_X6_list trc thg req ocn osF p1 K) : Met l yX6_list wsX6_list rmX6_list (va_Pc [.ref a_x, .int p1] (prW (dC, dI) kA sz [(a_x, .inr (6, [.ref a_pl, .ref a_lo, .ref a_sh, .long trc])), (a_sh, .inr (5, [.int thg, .int req, .ref a_ak, .int ocn, .ref a_os, .ref a_le])), (a_os, .inl (kA, 24, .inl osF))])) (va_Qi (fun (r : Int32) (u : Int32 × Int32 × Int32 × (Nat → Int32)) => K r u.1 u.2.1 u.2.2.1 u.2.2.2) (poW (dC, dI) (va_A [(a_x, .inr (6, [.ref a_pl, .ref a_lo, .ref a_sh, .long trc])), (a_sh, .inr (5, [.int thg, .int req, .ref a_ak, .int ocn, .ref a_os, .ref a_le])), (a_os, .inl (kA, 24, .inl osF))] sz) (fun (u : Int32 × Int32 × Int32 × (Nat → Int32)) => [(a_x, .inr (6, [.ref a_pl, .ref a_lo, .ref a_sh, .long trc])), (a_sh, .inr (5, [.int u.1, .int u.2.1, .ref a_ak, .int u.2.2.1, .ref a_os, .ref a_le])), (a_os, .inl (kA, 24, .inl u.2.2.2))])) (va_A [(a_x, .inr (6, [.ref a_pl, .ref a_lo, .ref a_sh, .long trc])), (a_sh, .inr (5, [.int thg, .int req, .ref a_ak, .int ocn, .ref a_os, .ref a_le])), (a_os, .inl (kA, 24, .inl osF))] sz)) 0 0 (va_A [(a_x, .inr (6, [.ref a_pl, .ref a_lo, .ref a_sh, .long trc])), (a_sh, .inr (5, [.int thg, .int req, .ref a_ak, .int ocn, .ref a_os, .ref a_le])), (a_os, .inl (kA, 24, .inl osF))] sz) := by
  refine Met.ofW (cc := cX6_list) (maxL := 3) (ret := (some .int)) (by decide) rfl ?_
  intro p e s m args below meth c s₁ B hml hv
  obtain ⟨hargs, hsz, hP, hK, hD0, hN⟩ := hv
  have hx := B.exec
  have hb := B.bytes
  have hr := B.returns
  have hts := atoms_spec (ws := wsX6_list) B.pre
  have hown : s.vm.findClass RX6 = some m.cls := findClass_of_methodNamed B.named
  have hlocks := B.notSynchronized
  subst hsz
  have hD := hD0.self (sz := s.heap.size)
  generalize hAe : va_A [(a_x, .inr (6, [.ref a_pl, .ref a_lo, .ref a_sh, .long trc])), (a_sh, .inr (5, [.int thg, .int req, .ref a_ak, .int ocn, .ref a_os, .ref a_le])), (a_os, .inl (kA, 24, .inl osF))] s.heap.size = A at hD ⊢
  have hA : ∀ q : Nat, s.heap.size ≤ q → A q := fun q h => by rw [← hAe]; exact Or.inr h
  have hS : va_S A s.heap s.heap [] := va_S.rf
  obtain ⟨Q, hQ⟩ : ∃ Q : State → Prop, Q = MQ below (va_Qi (fun (r : Int32) (u : Int32 × Int32 × Int32 × (Nat → Int32)) => K r u.1 u.2.1 u.2.2.1 u.2.2.2) (poW (dC, dI) A (fun (u : Int32 × Int32 × Int32 × (Nat → Int32)) => [(a_x, .inr (6, [.ref a_pl, .ref a_lo, .ref a_sh, .long trc])), (a_sh, .inr (5, [.int u.1, .int u.2.1, .ref a_ak, .int u.2.2.1, .ref a_os, .ref a_le])), (a_os, .inl (kA, 24, .inl u.2.2.2))])) A) args s 0 0 A := ⟨_, rfl⟩
  rw [← hQ]
  have hP : va_P (dC, dI) vwCl [(a_x, .inr (6, [.ref a_pl, .ref a_lo, .ref a_sh, .long trc])), (a_sh, .inr (5, [.int thg, .int req, .ref a_ak, .int ocn, .ref a_os, .ref a_le])), (a_os, .inl (kA, 24, .inl osF))] s.heap := hP
  refine en_ok hargs (Nat.le_of_ble_eq_true rfl) (fun ls hl => ?_)
  have hl : lv_has ls 3 [(0, .ref a_x), (1, .int p1)] := hl
  have h := hg
  unfold g_X6_list at h
  refine lv_iload_n hx hb dX6_list_0 rfl (lv_at hl 1 rfl) ?_
  refine lv_iconst (v := (1 : Int32)) hx hb dX6_list_1 (by decide +kernel) ?_
  refine lv_iconst (v := (4 : Int32)) hx hb dX6_list_2 (by decide +kernel) ?_
  have hPc := hP.sub (ws' := []) [] rfl
  have hDc := hD.sub (ws' := []) [] (by decide) rfl
  refine fr_i (wr := [(a_x, .inr (6, [.ref a_pl, .ref a_lo, .ref a_sh, .long trc])), (a_sh, .inr (5, [.int thg, .int req, .ref a_ak, .int ocn, .ref a_os, .ref a_le])), (a_os, .inl (kA, 24, .inl osF))]) (WN := fun (u3 : Unit) => [(a_x, .inr (6, [.ref a_pl, .ref a_lo, .ref a_sh, .long trc])), (a_sh, .inr (5, [.int thg, .int req, .ref a_ak, .int ocn, .ref a_os, .ref a_le])), (a_os, .inl (kA, 24, .inl osF))]) (va_runS (As := [.int p1, .int (1 : Int32), .int (4 : Int32)]) (rest := []) ⟨hx, hb, hml, hown, hts⟩ (c_X6_isWithin l dC dI kA s.heap.size p1 (1 : Int32) (4 : Int32) _ h) (va_cwS 3 hts gX6_list_X6_isWithin rfl rfl rfl (by decide +kernel) ⟨Nat.le_of_ble_eq_true rfl, Nat.le_of_ble_eq_true rfl⟩) (prW.preS hPc hDc hK hN) rfl rfl hl.1 rfl (lv_room (Nat.le_of_ble_eq_true rfl)) dX6_list_3 ⟨Nat.le_of_ble_eq_true rfl, Nat.le_of_ble_eq_true rfl⟩) hP hD hS hA [] [0, 1, 2] rfl rfl (by decide) (by decide) [0, 1, 2] (by decide) (fun _ => rfl) (fun r3 u3 H locs h hP hD hS => ?_)
  have hP : va_P (dC, dI) vwCl [(a_x, .inr (6, [.ref a_pl, .ref a_lo, .ref a_sh, .long trc])), (a_sh, .inr (5, [.int thg, .int req, .ref a_ak, .int ocn, .ref a_os, .ref a_le])), (a_os, .inl (kA, 24, .inl osF))] H := hP
  have hD : va_D A [(a_x, .inr (6, [.ref a_pl, .ref a_lo, .ref a_sh, .long trc])), (a_sh, .inr (5, [.int thg, .int req, .ref a_ak, .int ocn, .ref a_os, .ref a_le])), (a_os, .inl (kA, 24, .inl osF))] := hD
  refine lv_if_ne (tgt := 11) hx hb dX6_list_6 (by decide) (fun c6 => ?_) (fun c6 => ?_)
  · replace h := h.1 c6
    refine lv_aload_n hx hb dX6_list_11 rfl (lv_at hl 0 rfl) ?_
    refine va_get (D := (dC, dI)) (ci := 6) (v := .ref a_sh) (C := RX6) (T := TX6) (N := 4) hx hb hts (fun _ h => List.mem_cons_of_mem _ (List.mem_append_left _ (List.mem_append_right _ h))) hown hK hP 0 rfl rfl 2 (by decide) (hts (.fieldLink RX6 26 "RentOrBuy" "shelf" "LRentOrBuy$Shelf;") (List.mem_cons_of_mem _ (List.mem_append_left _ (List.mem_append_left _ (List.mem_of_getElem? (i := 0) rfl))))) (fun _ h9 => h9) rfl dX6_list_12 ?_
    refine va_getN (D := (dC, dI)) (ci := 5) (v := .int thg) (C := RX5) (T := TX5) (N := 6) hx hb hts (fun _ h => List.mem_cons_of_mem _ (List.mem_append_right _ h)) hown hK hP 1 rfl rfl 0 (by decide) (hN.f 6 rfl) (fun _ h9 => h9) rfl dX6_list_15 ?_
    refine lv_istore_n (lv' := [(2, .int thg), (0, .ref a_x), (1, .int p1)]) hx hb dX6_list_18 rfl hl (by decide) rfl (fun ls hl => ?_)
    refine lv_aload_n hx hb dX6_list_19 rfl (lv_at hl 1 rfl) ?_
    refine va_get (D := (dC, dI)) (ci := 6) (v := .ref a_sh) (C := RX6) (T := TX6) (N := 4) hx hb hts (fun _ h => List.mem_cons_of_mem _ (List.mem_append_left _ (List.mem_append_right _ h))) hown hK hP 0 rfl rfl 2 (by decide) (hts (.fieldLink RX6 26 "RentOrBuy" "shelf" "LRentOrBuy$Shelf;") (List.mem_cons_of_mem _ (List.mem_append_left _ (List.mem_append_left _ (List.mem_of_getElem? (i := 0) rfl))))) (fun _ h9 => h9) rfl dX6_list_20 ?_
    refine lv_iload_n hx hb dX6_list_23 rfl (lv_at hl 2 rfl) ?_
    have hPc := hP.sub (ws' := [(a_sh, .inr (5, [.int thg, .int req, .ref a_ak, .int ocn, .ref a_os, .ref a_le])), (a_os, .inl (kA, 24, .inl osF))]) [1, 2] rfl
    have hDc := hD.sub (ws' := [(a_sh, .inr (5, [.int thg, .int req, .ref a_ak, .int ocn, .ref a_os, .ref a_le])), (a_os, .inl (kA, 24, .inl osF))]) [1, 2] (by decide) rfl
    refine fr_v (wr := [(a_x, .inr (6, [.ref a_pl, .ref a_lo, .ref a_sh, .long trc]))]) (WN := fun (u24 : Int32 × Int32 × Int32 × (Nat → Int32)) => [(a_x, .inr (6, [.ref a_pl, .ref a_lo, .ref a_sh, .long trc])), (a_sh, .inr (5, [.int u24.1, .int u24.2.1, .ref a_ak, .int u24.2.2.1, .ref a_os, .ref a_le])), (a_os, .inl (kA, 24, .inl u24.2.2.2))]) (va_runV (As := [.int p1]) (rest := []) ⟨hx, hb, hml, hown, hts⟩ (c_X5_restart l dC dI kA a_sh a_os a_ak a_le H.size thg req ocn osF p1 _ h) (cwV 1 hts gX6_list_X5_restart rfl rfl rfl (by decide +kernel) ⟨Nat.le_of_ble_eq_true rfl, Nat.le_of_ble_eq_true rfl⟩) (prW.preV (ci := 5) (q0 := 0) hPc hDc hK hN rfl rfl) rfl rfl hl.1 rfl (lv_room (Nat.le_of_ble_eq_true rfl)) dX6_list_24 ⟨Nat.le_of_ble_eq_true rfl, Nat.le_of_ble_eq_true rfl⟩) hP hD hS hA [1, 2] [0] rfl rfl (by decide) (by decide) [0, 1, 2] (by decide) (fun _ => rfl) (fun u24 H locs h hP hD hS => ?_)
    obtain ⟨y24_thg', y24_req', y24_ocn', y24_osF'⟩ := u24
    have hP : va_P (dC, dI) vwCl [(a_x, .inr (6, [.ref a_pl, .ref a_lo, .ref a_sh, .long trc])), (a_sh, .inr (5, [.int y24_thg', .int y24_req', .ref a_ak, .int y24_ocn', .ref a_os, .ref a_le])), (a_os, .inl (kA, 24, .inl y24_osF'))] H := hP
    have hD : va_D A [(a_x, .inr (6, [.ref a_pl, .ref a_lo, .ref a_sh, .long trc])), (a_sh, .inr (5, [.int y24_thg', .int y24_req', .ref a_ak, .int y24_ocn', .ref a_os, .ref a_le])), (a_os, .inl (kA, 24, .inl y24_osF'))] := hD
    refine lv_iload_n hx hb dX6_list_27 rfl (lv_at hl 0 rfl) ?_
    rw [hQ]
    exact rt_i (y24_thg', y24_req', y24_ocn', y24_osF') hx hb hr hlocks h hP hD hS dX6_list_28
  · replace h := h.2 c6
    refine lv_iconst (v := (-1 : Int32)) hx hb dX6_list_9 (by decide +kernel) ?_
    rw [hQ]
    exact rt_i (thg, req, ocn, osF) hx hb hr hlocks h hP hD hS dX6_list_10

