/-- RentOrBuyModel.<init> -/
def rmX7_init : Room := { frames := 1, cells := 8, slots := 824, locals := 12 }
set_option maxHeartbeats 4000000 in
set_option maxRecDepth 100000 in
theorem c_X7_init (l : Launch) (dC : Nat → ClassId) (dI : Nat → Nat → Nat) (kA : ClassId) (a_m : Nat) (sz : Nat)  (K : Int32 → Int32 → Int32 → Int32 → Int32 → Int32 → (Nat → Int32) → (Nat → Int32) → (Nat → Int32) → (Nat → Int32) → (Nat → Int32) → (Nat → Int32) → (Nat → Int32) → (Nat → Int32) → Prop) (hg : g_X7_init  K) : Met l yX7_init wsX7_init rmX7_init (va_Pc [.ref a_m] (prW (dC, dI) kA sz [(a_m, .inr (7, [.int 0, .int 0, .int 0, .int 0, .int 0, .int 0, .null, .null, .int 0, .int 0, .null, .long 0, .null, .null, .int 0, .null, .null, .null]))])) (va_Qv (fun (u : Int32 × Int32 × Int32 × Int32 × Int32 × Int32 × (Nat → Int32) × (Nat → Int32) × (Nat → Int32) × (Nat → Int32) × (Nat → Int32) × (Nat → Int32) × (Nat → Int32) × (Nat → Int32) × Nat × Nat × Nat × Nat × Nat × Nat × Nat × Nat) => K u.1 u.2.1 u.2.2.1 u.2.2.2.1 u.2.2.2.2.1 u.2.2.2.2.2.1 u.2.2.2.2.2.2.1 u.2.2.2.2.2.2.2.1 u.2.2.2.2.2.2.2.2.1 u.2.2.2.2.2.2.2.2.2.1 u.2.2.2.2.2.2.2.2.2.2.1 u.2.2.2.2.2.2.2.2.2.2.2.1 u.2.2.2.2.2.2.2.2.2.2.2.2.1 u.2.2.2.2.2.2.2.2.2.2.2.2.2.1) (poW (dC, dI) (va_A [(a_m, .inr (7, [.int 0, .int 0, .int 0, .int 0, .int 0, .int 0, .null, .null, .int 0, .int 0, .null, .long 0, .null, .null, .int 0, .null, .null, .null]))] sz) (fun (u : Int32 × Int32 × Int32 × Int32 × Int32 × Int32 × (Nat → Int32) × (Nat → Int32) × (Nat → Int32) × (Nat → Int32) × (Nat → Int32) × (Nat → Int32) × (Nat → Int32) × (Nat → Int32) × Nat × Nat × Nat × Nat × Nat × Nat × Nat × Nat) => [(a_m, .inr (7, [.int 0, .int u.1, .int 0, .int u.2.1, .int u.2.2.1, .int u.2.2.2.1, .ref u.2.2.2.2.2.2.2.2.2.2.2.2.2.2.1, .ref u.2.2.2.2.2.2.2.2.2.2.2.2.2.2.2.1, .int u.2.2.2.2.1, .int u.2.2.2.2.2.1, .ref u.2.2.2.2.2.2.2.2.2.2.2.2.2.2.2.2.1, .long 0, .ref u.2.2.2.2.2.2.2.2.2.2.2.2.2.2.2.2.2.1, .ref u.2.2.2.2.2.2.2.2.2.2.2.2.2.2.2.2.2.2.1, .int 0, .ref u.2.2.2.2.2.2.2.2.2.2.2.2.2.2.2.2.2.2.2.1, .ref u.2.2.2.2.2.2.2.2.2.2.2.2.2.2.2.2.2.2.2.2.1, .ref u.2.2.2.2.2.2.2.2.2.2.2.2.2.2.2.2.2.2.2.2.2])), (u.2.2.2.2.2.2.2.2.2.2.2.2.2.2.1, .inl (kA, 42, .inl u.2.2.2.2.2.2.1)), (u.2.2.2.2.2.2.2.2.2.2.2.2.2.2.2.1, .inl (kA, 42, .inl u.2.2.2.2.2.2.2.1)), (u.2.2.2.2.2.2.2.2.2.2.2.2.2.2.2.2.1, .inl (kA, 16, .inl u.2.2.2.2.2.2.2.2.1)), (u.2.2.2.2.2.2.2.2.2.2.2.2.2.2.2.2.2.1, .inl (kA, 4, .inl u.2.2.2.2.2.2.2.2.2.1)), (u.2.2.2.2.2.2.2.2.2.2.2.2.2.2.2.2.2.2.1, .inl (kA, 96, .inl u.2.2.2.2.2.2.2.2.2.2.1)), (u.2.2.2.2.2.2.2.2.2.2.2.2.2.2.2.2.2.2.2.1, .inl (kA, 24, .inl u.2.2.2.2.2.2.2.2.2.2.2.1)), (u.2.2.2.2.2.2.2.2.2.2.2.2.2.2.2.2.2.2.2.2.1, .inl (kA, 24, .inl u.2.2.2.2.2.2.2.2.2.2.2.2.1)), (u.2.2.2.2.2.2.2.2.2.2.2.2.2.2.2.2.2.2.2.2.2, .inl (kA, 576, .inl u.2.2.2.2.2.2.2.2.2.2.2.2.2.1))])) (va_A [(a_m, .inr (7, [.int 0, .int 0, .int 0, .int 0, .int 0, .int 0, .null, .null, .int 0, .int 0, .null, .long 0, .null, .null, .int 0, .null, .null, .null]))] sz)) 8 824 (va_A [(a_m, .inr (7, [.int 0, .int 0, .int 0, .int 0, .int 0, .int 0, .null, .null, .int 0, .int 0, .null, .long 0, .null, .null, .int 0, .null, .null, .null]))] sz) := by
  refine Met.ofW (cc := cX7_init) (maxL := 1) (ret := none) (by decide) rfl ?_
  intro p e s m args below meth c s₁ B hml hv
  obtain ⟨hargs, hsz, hP, hK, hD0, hN⟩ := hv
  have hx := B.exec
  have hb := B.bytes
  have hr := B.returns
  have hts := atoms_spec (ws := wsX7_init) B.pre
  have hown : s.vm.findClass RX7 = some m.cls := findClass_of_methodNamed B.named
  have hlocks := B.notSynchronized
  have hin : meth.name = "<init>" := (name_of_methodNamed B.named B.method).1
  subst hsz
  have hD := hD0.self (sz := s.heap.size)
  generalize hAe : va_A [(a_m, .inr (7, [.int 0, .int 0, .int 0, .int 0, .int 0, .int 0, .null, .null, .int 0, .int 0, .null, .long 0, .null, .null, .int 0, .null, .null, .null]))] s.heap.size = A at hD ⊢
  have hA : ∀ q : Nat, s.heap.size ≤ q → A q := fun q h => by rw [← hAe]; exact Or.inr h
  have hS : va_S A s.heap s.heap [] := va_S.rf
  obtain ⟨Q, hQ⟩ : ∃ Q : State → Prop, Q = MQ below (va_Qv (fun (u : Int32 × Int32 × Int32 × Int32 × Int32 × Int32 × (Nat → Int32) × (Nat → Int32) × (Nat → Int32) × (Nat → Int32) × (Nat → Int32) × (Nat → Int32) × (Nat → Int32) × (Nat → Int32) × Nat × Nat × Nat × Nat × Nat × Nat × Nat × Nat) => K u.1 u.2.1 u.2.2.1 u.2.2.2.1 u.2.2.2.2.1 u.2.2.2.2.2.1 u.2.2.2.2.2.2.1 u.2.2.2.2.2.2.2.1 u.2.2.2.2.2.2.2.2.1 u.2.2.2.2.2.2.2.2.2.1 u.2.2.2.2.2.2.2.2.2.2.1 u.2.2.2.2.2.2.2.2.2.2.2.1 u.2.2.2.2.2.2.2.2.2.2.2.2.1 u.2.2.2.2.2.2.2.2.2.2.2.2.2.1) (poW (dC, dI) A (fun (u : Int32 × Int32 × Int32 × Int32 × Int32 × Int32 × (Nat → Int32) × (Nat → Int32) × (Nat → Int32) × (Nat → Int32) × (Nat → Int32) × (Nat → Int32) × (Nat → Int32) × (Nat → Int32) × Nat × Nat × Nat × Nat × Nat × Nat × Nat × Nat) => [(a_m, .inr (7, [.int 0, .int u.1, .int 0, .int u.2.1, .int u.2.2.1, .int u.2.2.2.1, .ref u.2.2.2.2.2.2.2.2.2.2.2.2.2.2.1, .ref u.2.2.2.2.2.2.2.2.2.2.2.2.2.2.2.1, .int u.2.2.2.2.1, .int u.2.2.2.2.2.1, .ref u.2.2.2.2.2.2.2.2.2.2.2.2.2.2.2.2.1, .long 0, .ref u.2.2.2.2.2.2.2.2.2.2.2.2.2.2.2.2.2.1, .ref u.2.2.2.2.2.2.2.2.2.2.2.2.2.2.2.2.2.2.1, .int 0, .ref u.2.2.2.2.2.2.2.2.2.2.2.2.2.2.2.2.2.2.2.1, .ref u.2.2.2.2.2.2.2.2.2.2.2.2.2.2.2.2.2.2.2.2.1, .ref u.2.2.2.2.2.2.2.2.2.2.2.2.2.2.2.2.2.2.2.2.2])), (u.2.2.2.2.2.2.2.2.2.2.2.2.2.2.1, .inl (kA, 42, .inl u.2.2.2.2.2.2.1)), (u.2.2.2.2.2.2.2.2.2.2.2.2.2.2.2.1, .inl (kA, 42, .inl u.2.2.2.2.2.2.2.1)), (u.2.2.2.2.2.2.2.2.2.2.2.2.2.2.2.2.1, .inl (kA, 16, .inl u.2.2.2.2.2.2.2.2.1)), (u.2.2.2.2.2.2.2.2.2.2.2.2.2.2.2.2.2.1, .inl (kA, 4, .inl u.2.2.2.2.2.2.2.2.2.1)), (u.2.2.2.2.2.2.2.2.2.2.2.2.2.2.2.2.2.2.1, .inl (kA, 96, .inl u.2.2.2.2.2.2.2.2.2.2.1)), (u.2.2.2.2.2.2.2.2.2.2.2.2.2.2.2.2.2.2.2.1, .inl (kA, 24, .inl u.2.2.2.2.2.2.2.2.2.2.2.1)), (u.2.2.2.2.2.2.2.2.2.2.2.2.2.2.2.2.2.2.2.2.1, .inl (kA, 24, .inl u.2.2.2.2.2.2.2.2.2.2.2.2.1)), (u.2.2.2.2.2.2.2.2.2.2.2.2.2.2.2.2.2.2.2.2.2, .inl (kA, 576, .inl u.2.2.2.2.2.2.2.2.2.2.2.2.2.1))])) A) args s 8 824 A := ⟨_, rfl⟩
  rw [← hQ]
  have hP : va_P (dC, dI) vwCl [(a_m, .inr (7, [.int 0, .int 0, .int 0, .int 0, .int 0, .int 0, .null, .null, .int 0, .int 0, .null, .long 0, .null, .null, .int 0, .null, .null, .null]))] s.heap := hP
  refine en_ok hargs (Nat.le_of_ble_eq_true rfl) (fun ls hl => ?_)
  have hl : lv_has ls 1 [(0, .ref a_m)] := hl
  have h := hg
  unfold g_X7_init at h
  refine lv_aload_n hx hb dX7_init_0 rfl (lv_at hl 0 rfl) ?_
  refine W.objInit hx hb hown (hts (.methodLink RX7 1 objectInit) (List.mem_cons_of_mem _ (List.mem_append_left _ (List.mem_of_getElem? (i := 0) rfl)))) (hts (.instanceMethod objectInit) (List.mem_cons_of_mem _ (List.mem_append_left _ (List.mem_of_getElem? (i := 1) rfl)))) (hts (.code objectInit ⟨#[0xb1]⟩ 1 none) (List.mem_cons_of_mem _ (List.mem_append_left _ (List.mem_of_getElem? (i := 2) rfl)))) rfl (by rw [hml]; exact hl.1) rfl dX7_init_1 (Nat.le_of_ble_eq_true rfl) (Nat.le_of_ble_eq_true rfl) ?_
  refine W.eq (g2 := F0 m 4 ls []) rfl ?_
  refine lv_aload_n hx hb dX7_init_4 rfl (lv_at hl 0 rfl) ?_
  refine lv_iconst (v := (1 : Int32)) hx hb dX7_init_5 (by decide +kernel) ?_
  refine va_put (D := (dC, dI)) (ci := 7) (v := .int (1 : Int32)) (ty := .int) (C := RX7) (T := TX7) (N := 18) hx hb hts (fun _ h => List.mem_cons_of_mem _ (List.mem_append_right _ h)) tyX7 tyX7_ok nmX7 hown hK hP hD hS 0 rfl rfl 1 (by decide) (hts (.fieldLink RX7 7 "RentOrBuyModel" "rent" "I") (List.mem_cons_of_mem _ (List.mem_append_left _ (List.mem_of_getElem? (i := 3) rfl)))) (fun _ h9 => h9) rfl (by decide +kernel) rfl rfl (Nat.le_of_ble_eq_true rfl) dX7_init_6 (fun H locs hP hD hS => ?_)
  have hP : va_P (dC, dI) vwCl [(a_m, .inr (7, [.int 0, .int (1 : Int32), .int 0, .int 0, .int 0, .int 0, .null, .null, .int 0, .int 0, .null, .long 0, .null, .null, .int 0, .null, .null, .null]))] H := hP
  have hD : va_D A [(a_m, .inr (7, [.int 0, .int (1 : Int32), .int 0, .int 0, .int 0, .int 0, .null, .null, .int 0, .int 0, .null, .long 0, .null, .null, .int 0, .null, .null, .null]))] := hD
  refine lv_aload_n hx hb dX7_init_9 rfl (lv_at hl 0 rfl) ?_
  refine lv_sipush (v := (200 : Int32)) hx hb dX7_init_10 (by decide +kernel) ?_
  refine va_put (D := (dC, dI)) (ci := 7) (v := .int (200 : Int32)) (ty := .int) (C := RX7) (T := TX7) (N := 18) hx hb hts (fun _ h => List.mem_cons_of_mem _ (List.mem_append_right _ h)) tyX7 tyX7_ok nmX7 hown hK hP hD hS 0 rfl rfl 3 (by decide) (hts (.fieldLink RX7 13 "RentOrBuyModel" "cap" "I") (List.mem_cons_of_mem _ (List.mem_append_left _ (List.mem_of_getElem? (i := 4) rfl)))) (fun _ h9 => h9) rfl (by decide +kernel) rfl rfl (Nat.le_of_ble_eq_true rfl) dX7_init_13 (fun H locs hP hD hS => ?_)
  have hP : va_P (dC, dI) vwCl [(a_m, .inr (7, [.int 0, .int (1 : Int32), .int 0, .int (200 : Int32), .int 0, .int 0, .null, .null, .int 0, .int 0, .null, .long 0, .null, .null, .int 0, .null, .null, .null]))] H := hP
  have hD : va_D A [(a_m, .inr (7, [.int 0, .int (1 : Int32), .int 0, .int (200 : Int32), .int 0, .int 0, .null, .null, .int 0, .int 0, .null, .long 0, .null, .null, .int 0, .null, .null, .null]))] := hD
  refine lv_aload_n hx hb dX7_init_16 rfl (lv_at hl 0 rfl) ?_
  refine lv_bipush (v := (10 : Int32)) hx hb dX7_init_17 (by decide +kernel) ?_
  refine va_put (D := (dC, dI)) (ci := 7) (v := .int (10 : Int32)) (ty := .int) (C := RX7) (T := TX7) (N := 18) hx hb hts (fun _ h => List.mem_cons_of_mem _ (List.mem_append_right _ h)) tyX7 tyX7_ok nmX7 hown hK hP hD hS 0 rfl rfl 4 (by decide) (hts (.fieldLink RX7 16 "RentOrBuyModel" "price" "I") (List.mem_cons_of_mem _ (List.mem_append_left _ (List.mem_of_getElem? (i := 5) rfl)))) (fun _ h9 => h9) rfl (by decide +kernel) rfl rfl (Nat.le_of_ble_eq_true rfl) dX7_init_19 (fun H locs hP hD hS => ?_)
  have hP : va_P (dC, dI) vwCl [(a_m, .inr (7, [.int 0, .int (1 : Int32), .int 0, .int (200 : Int32), .int (10 : Int32), .int 0, .null, .null, .int 0, .int 0, .null, .long 0, .null, .null, .int 0, .null, .null, .null]))] H := hP
  have hD : va_D A [(a_m, .inr (7, [.int 0, .int (1 : Int32), .int 0, .int (200 : Int32), .int (10 : Int32), .int 0, .null, .null, .int 0, .int 0, .null, .long 0, .null, .null, .int 0, .null, .null, .null]))] := hD
  refine lv_aload_n hx hb dX7_init_22 rfl (lv_at hl 0 rfl) ?_
  refine lv_bipush (v := (20 : Int32)) hx hb dX7_init_23 (by decide +kernel) ?_
  refine va_put (D := (dC, dI)) (ci := 7) (v := .int (20 : Int32)) (ty := .int) (C := RX7) (T := TX7) (N := 18) hx hb hts (fun _ h => List.mem_cons_of_mem _ (List.mem_append_right _ h)) tyX7 tyX7_ok nmX7 hown hK hP hD hS 0 rfl rfl 5 (by decide) (hts (.fieldLink RX7 19 "RentOrBuyModel" "ends" "I") (List.mem_cons_of_mem _ (List.mem_append_left _ (List.mem_of_getElem? (i := 6) rfl)))) (fun _ h9 => h9) rfl (by decide +kernel) rfl rfl (Nat.le_of_ble_eq_true rfl) dX7_init_25 (fun H locs hP hD hS => ?_)
  have hP : va_P (dC, dI) vwCl [(a_m, .inr (7, [.int 0, .int (1 : Int32), .int 0, .int (200 : Int32), .int (10 : Int32), .int (20 : Int32), .null, .null, .int 0, .int 0, .null, .long 0, .null, .null, .int 0, .null, .null, .null]))] H := hP
  have hD : va_D A [(a_m, .inr (7, [.int 0, .int (1 : Int32), .int 0, .int (200 : Int32), .int (10 : Int32), .int (20 : Int32), .null, .null, .int 0, .int 0, .null, .long 0, .null, .null, .int 0, .null, .null, .null]))] := hD
  refine lv_aload_n hx hb dX7_init_28 rfl (lv_at hl 0 rfl) ?_
  refine lv_bipush (v := (42 : Int32)) hx hb dX7_init_29 (by decide +kernel) ?_
  refine na_i (N' := 42) hx hb (hts (.arrayClass .int) (List.mem_cons_of_mem _ (List.mem_append_left _ (List.mem_of_getElem? (i := 7) rfl)))) hK hP hD hS hA (by decide) (by decide +kernel) (by decide) (Nat.le_of_ble_eq_true rfl) (Nat.le_of_ble_eq_true rfl) dX7_init_31 (fun q31 H hP hD hS => ?_)
  have hP : va_P (dC, dI) vwCl [(a_m, .inr (7, [.int 0, .int (1 : Int32), .int 0, .int (200 : Int32), .int (10 : Int32), .int (20 : Int32), .null, .null, .int 0, .int 0, .null, .long 0, .null, .null, .int 0, .null, .null, .null])), (q31, .inl (kA, 42, .inl (fun _ => (0 : Int32))))] H := hP
  have hD : va_D A [(a_m, .inr (7, [.int 0, .int (1 : Int32), .int 0, .int (200 : Int32), .int (10 : Int32), .int (20 : Int32), .null, .null, .int 0, .int 0, .null, .long 0, .null, .null, .int 0, .null, .null, .null])), (q31, .inl (kA, 42, .inl (fun _ => (0 : Int32))))] := hD
  refine va_putF (D := (dC, dI)) (ci := 7) (v := .ref q31) (ty := (.array .int)) (C := RX7) (T := TX7) (N := 18) hx hb hts (fun _ h => List.mem_cons_of_mem _ (List.mem_append_right _ h)) tyX7 tyX7_ok nmX7 hown hK hP hD hS 0 rfl rfl 6 (by decide) (hts (.fieldLink RX7 22 "RentOrBuyModel" "planShare" "[I") (List.mem_cons_of_mem _ (List.mem_append_left _ (List.mem_of_getElem? (i := 8) rfl)))) (fun _ h9 => h9) rfl hin rfl (by decide +kernel) rfl rfl (Nat.le_of_ble_eq_true rfl) dX7_init_33 (fun H locs hP hD hS => ?_)
  have hP : va_P (dC, dI) vwCl [(a_m, .inr (7, [.int 0, .int (1 : Int32), .int 0, .int (200 : Int32), .int (10 : Int32), .int (20 : Int32), .ref q31, .null, .int 0, .int 0, .null, .long 0, .null, .null, .int 0, .null, .null, .null])), (q31, .inl (kA, 42, .inl (fun _ => (0 : Int32))))] H := hP
  have hD : va_D A [(a_m, .inr (7, [.int 0, .int (1 : Int32), .int 0, .int (200 : Int32), .int (10 : Int32), .int (20 : Int32), .ref q31, .null, .int 0, .int 0, .null, .long 0, .null, .null, .int 0, .null, .null, .null])), (q31, .inl (kA, 42, .inl (fun _ => (0 : Int32))))] := hD
  refine lv_aload_n hx hb dX7_init_36 rfl (lv_at hl 0 rfl) ?_
  refine lv_bipush (v := (42 : Int32)) hx hb dX7_init_37 (by decide +kernel) ?_
  refine na_i (N' := 42) hx hb (hts (.arrayClass .int) (List.mem_cons_of_mem _ (List.mem_append_left _ (List.mem_of_getElem? (i := 7) rfl)))) hK hP hD hS hA (by decide) (by decide +kernel) (by decide) (Nat.le_of_ble_eq_true rfl) (Nat.le_of_ble_eq_true rfl) dX7_init_39 (fun q39 H hP hD hS => ?_)
  have hP : va_P (dC, dI) vwCl [(a_m, .inr (7, [.int 0, .int (1 : Int32), .int 0, .int (200 : Int32), .int (10 : Int32), .int (20 : Int32), .ref q31, .null, .int 0, .int 0, .null, .long 0, .null, .null, .int 0, .null, .null, .null])), (q31, .inl (kA, 42, .inl (fun _ => (0 : Int32)))), (q39, .inl (kA, 42, .inl (fun _ => (0 : Int32))))] H := hP
  have hD : va_D A [(a_m, .inr (7, [.int 0, .int (1 : Int32), .int 0, .int (200 : Int32), .int (10 : Int32), .int (20 : Int32), .ref q31, .null, .int 0, .int 0, .null, .long 0, .null, .null, .int 0, .null, .null, .null])), (q31, .inl (kA, 42, .inl (fun _ => (0 : Int32)))), (q39, .inl (kA, 42, .inl (fun _ => (0 : Int32))))] := hD
  refine va_putF (D := (dC, dI)) (ci := 7) (v := .ref q39) (ty := (.array .int)) (C := RX7) (T := TX7) (N := 18) hx hb hts (fun _ h => List.mem_cons_of_mem _ (List.mem_append_right _ h)) tyX7 tyX7_ok nmX7 hown hK hP hD hS 0 rfl rfl 7 (by decide) (hts (.fieldLink RX7 26 "RentOrBuyModel" "endShare" "[I") (List.mem_cons_of_mem _ (List.mem_append_left _ (List.mem_of_getElem? (i := 9) rfl)))) (fun _ h9 => h9) rfl hin rfl (by decide +kernel) rfl rfl (Nat.le_of_ble_eq_true rfl) dX7_init_41 (fun H locs hP hD hS => ?_)
  have hP : va_P (dC, dI) vwCl [(a_m, .inr (7, [.int 0, .int (1 : Int32), .int 0, .int (200 : Int32), .int (10 : Int32), .int (20 : Int32), .ref q31, .ref q39, .int 0, .int 0, .null, .long 0, .null, .null, .int 0, .null, .null, .null])), (q31, .inl (kA, 42, .inl (fun _ => (0 : Int32)))), (q39, .inl (kA, 42, .inl (fun _ => (0 : Int32))))] H := hP
  have hD : va_D A [(a_m, .inr (7, [.int 0, .int (1 : Int32), .int 0, .int (200 : Int32), .int (10 : Int32), .int (20 : Int32), .ref q31, .ref q39, .int 0, .int 0, .null, .long 0, .null, .null, .int 0, .null, .null, .null])), (q31, .inl (kA, 42, .inl (fun _ => (0 : Int32)))), (q39, .inl (kA, 42, .inl (fun _ => (0 : Int32))))] := hD
  refine lv_aload_n hx hb dX7_init_44 rfl (lv_at hl 0 rfl) ?_
  refine lv_iconst (v := (3 : Int32)) hx hb dX7_init_45 (by decide +kernel) ?_
  refine va_put (D := (dC, dI)) (ci := 7) (v := .int (3 : Int32)) (ty := .int) (C := RX7) (T := TX7) (N := 18) hx hb hts (fun _ h => List.mem_cons_of_mem _ (List.mem_append_right _ h)) tyX7 tyX7_ok nmX7 hown hK hP hD hS 0 rfl rfl 8 (by decide) (hts (.fieldLink RX7 29 "RentOrBuyModel" "things" "I") (List.mem_cons_of_mem _ (List.mem_append_left _ (List.mem_of_getElem? (i := 10) rfl)))) (fun _ h9 => h9) rfl (by decide +kernel) rfl rfl (Nat.le_of_ble_eq_true rfl) dX7_init_46 (fun H locs hP hD hS => ?_)
  have hP : va_P (dC, dI) vwCl [(a_m, .inr (7, [.int 0, .int (1 : Int32), .int 0, .int (200 : Int32), .int (10 : Int32), .int (20 : Int32), .ref q31, .ref q39, .int (3 : Int32), .int 0, .null, .long 0, .null, .null, .int 0, .null, .null, .null])), (q31, .inl (kA, 42, .inl (fun _ => (0 : Int32)))), (q39, .inl (kA, 42, .inl (fun _ => (0 : Int32))))] H := hP
  have hD : va_D A [(a_m, .inr (7, [.int 0, .int (1 : Int32), .int 0, .int (200 : Int32), .int (10 : Int32), .int (20 : Int32), .ref q31, .ref q39, .int (3 : Int32), .int 0, .null, .long 0, .null, .null, .int 0, .null, .null, .null])), (q31, .inl (kA, 42, .inl (fun _ => (0 : Int32)))), (q39, .inl (kA, 42, .inl (fun _ => (0 : Int32))))] := hD
  refine lv_aload_n hx hb dX7_init_49 rfl (lv_at hl 0 rfl) ?_
  refine lv_bipush (v := (16 : Int32)) hx hb dX7_init_50 (by decide +kernel) ?_
  refine na_i (N' := 16) hx hb (hts (.arrayClass .int) (List.mem_cons_of_mem _ (List.mem_append_left _ (List.mem_of_getElem? (i := 7) rfl)))) hK hP hD hS hA (by decide) (by decide +kernel) (by decide) (Nat.le_of_ble_eq_true rfl) (Nat.le_of_ble_eq_true rfl) dX7_init_52 (fun q52 H hP hD hS => ?_)
  have hP : va_P (dC, dI) vwCl [(a_m, .inr (7, [.int 0, .int (1 : Int32), .int 0, .int (200 : Int32), .int (10 : Int32), .int (20 : Int32), .ref q31, .ref q39, .int (3 : Int32), .int 0, .null, .long 0, .null, .null, .int 0, .null, .null, .null])), (q31, .inl (kA, 42, .inl (fun _ => (0 : Int32)))), (q39, .inl (kA, 42, .inl (fun _ => (0 : Int32)))), (q52, .inl (kA, 16, .inl (fun _ => (0 : Int32))))] H := hP
  have hD : va_D A [(a_m, .inr (7, [.int 0, .int (1 : Int32), .int 0, .int (200 : Int32), .int (10 : Int32), .int (20 : Int32), .ref q31, .ref q39, .int (3 : Int32), .int 0, .null, .long 0, .null, .null, .int 0, .null, .null, .null])), (q31, .inl (kA, 42, .inl (fun _ => (0 : Int32)))), (q39, .inl (kA, 42, .inl (fun _ => (0 : Int32)))), (q52, .inl (kA, 16, .inl (fun _ => (0 : Int32))))] := hD
  refine va_putF (D := (dC, dI)) (ci := 7) (v := .ref q52) (ty := (.array .int)) (C := RX7) (T := TX7) (N := 18) hx hb hts (fun _ h => List.mem_cons_of_mem _ (List.mem_append_right _ h)) tyX7 tyX7_ok nmX7 hown hK hP hD hS 0 rfl rfl 10 (by decide) (hts (.fieldLink RX7 32 "RentOrBuyModel" "request" "[I") (List.mem_cons_of_mem _ (List.mem_append_left _ (List.mem_of_getElem? (i := 11) rfl)))) (fun _ h9 => h9) rfl hin rfl (by decide +kernel) rfl rfl (Nat.le_of_ble_eq_true rfl) dX7_init_54 (fun H locs hP hD hS => ?_)
  have hP : va_P (dC, dI) vwCl [(a_m, .inr (7, [.int 0, .int (1 : Int32), .int 0, .int (200 : Int32), .int (10 : Int32), .int (20 : Int32), .ref q31, .ref q39, .int (3 : Int32), .int 0, .ref q52, .long 0, .null, .null, .int 0, .null, .null, .null])), (q31, .inl (kA, 42, .inl (fun _ => (0 : Int32)))), (q39, .inl (kA, 42, .inl (fun _ => (0 : Int32)))), (q52, .inl (kA, 16, .inl (fun _ => (0 : Int32))))] H := hP
  have hD : va_D A [(a_m, .inr (7, [.int 0, .int (1 : Int32), .int 0, .int (200 : Int32), .int (10 : Int32), .int (20 : Int32), .ref q31, .ref q39, .int (3 : Int32), .int 0, .ref q52, .long 0, .null, .null, .int 0, .null, .null, .null])), (q31, .inl (kA, 42, .inl (fun _ => (0 : Int32)))), (q39, .inl (kA, 42, .inl (fun _ => (0 : Int32)))), (q52, .inl (kA, 16, .inl (fun _ => (0 : Int32))))] := hD
  refine lv_aload_n hx hb dX7_init_57 rfl (lv_at hl 0 rfl) ?_
  refine lv_iconst (v := (4 : Int32)) hx hb dX7_init_58 (by decide +kernel) ?_
  refine na_i (N' := 4) hx hb (hts (.arrayClass .int) (List.mem_cons_of_mem _ (List.mem_append_left _ (List.mem_of_getElem? (i := 7) rfl)))) hK hP hD hS hA (by decide) (by decide +kernel) (by decide) (Nat.le_of_ble_eq_true rfl) (Nat.le_of_ble_eq_true rfl) dX7_init_59 (fun q59 H hP hD hS => ?_)
  have hP : va_P (dC, dI) vwCl [(a_m, .inr (7, [.int 0, .int (1 : Int32), .int 0, .int (200 : Int32), .int (10 : Int32), .int (20 : Int32), .ref q31, .ref q39, .int (3 : Int32), .int 0, .ref q52, .long 0, .null, .null, .int 0, .null, .null, .null])), (q31, .inl (kA, 42, .inl (fun _ => (0 : Int32)))), (q39, .inl (kA, 42, .inl (fun _ => (0 : Int32)))), (q52, .inl (kA, 16, .inl (fun _ => (0 : Int32)))), (q59, .inl (kA, 4, .inl (fun _ => (0 : Int32))))] H := hP
  have hD : va_D A [(a_m, .inr (7, [.int 0, .int (1 : Int32), .int 0, .int (200 : Int32), .int (10 : Int32), .int (20 : Int32), .ref q31, .ref q39, .int (3 : Int32), .int 0, .ref q52, .long 0, .null, .null, .int 0, .null, .null, .null])), (q31, .inl (kA, 42, .inl (fun _ => (0 : Int32)))), (q39, .inl (kA, 42, .inl (fun _ => (0 : Int32)))), (q52, .inl (kA, 16, .inl (fun _ => (0 : Int32)))), (q59, .inl (kA, 4, .inl (fun _ => (0 : Int32))))] := hD
  refine va_putF (D := (dC, dI)) (ci := 7) (v := .ref q59) (ty := (.array .int)) (C := RX7) (T := TX7) (N := 18) hx hb hts (fun _ h => List.mem_cons_of_mem _ (List.mem_append_right _ h)) tyX7 tyX7_ok nmX7 hown hK hP hD hS 0 rfl rfl 12 (by decide) (hts (.fieldLink RX7 35 "RentOrBuyModel" "row" "[I") (List.mem_cons_of_mem _ (List.mem_append_left _ (List.mem_of_getElem? (i := 12) rfl)))) (fun _ h9 => h9) rfl hin rfl (by decide +kernel) rfl rfl (Nat.le_of_ble_eq_true rfl) dX7_init_61 (fun H locs hP hD hS => ?_)
  have hP : va_P (dC, dI) vwCl [(a_m, .inr (7, [.int 0, .int (1 : Int32), .int 0, .int (200 : Int32), .int (10 : Int32), .int (20 : Int32), .ref q31, .ref q39, .int (3 : Int32), .int 0, .ref q52, .long 0, .ref q59, .null, .int 0, .null, .null, .null])), (q31, .inl (kA, 42, .inl (fun _ => (0 : Int32)))), (q39, .inl (kA, 42, .inl (fun _ => (0 : Int32)))), (q52, .inl (kA, 16, .inl (fun _ => (0 : Int32)))), (q59, .inl (kA, 4, .inl (fun _ => (0 : Int32))))] H := hP
  have hD : va_D A [(a_m, .inr (7, [.int 0, .int (1 : Int32), .int 0, .int (200 : Int32), .int (10 : Int32), .int (20 : Int32), .ref q31, .ref q39, .int (3 : Int32), .int 0, .ref q52, .long 0, .ref q59, .null, .int 0, .null, .null, .null])), (q31, .inl (kA, 42, .inl (fun _ => (0 : Int32)))), (q39, .inl (kA, 42, .inl (fun _ => (0 : Int32)))), (q52, .inl (kA, 16, .inl (fun _ => (0 : Int32)))), (q59, .inl (kA, 4, .inl (fun _ => (0 : Int32))))] := hD
  refine lv_aload_n hx hb dX7_init_64 rfl (lv_at hl 0 rfl) ?_
  refine lv_bipush (v := (96 : Int32)) hx hb dX7_init_65 (by decide +kernel) ?_
  refine na_i (N' := 96) hx hb (hts (.arrayClass .int) (List.mem_cons_of_mem _ (List.mem_append_left _ (List.mem_of_getElem? (i := 7) rfl)))) hK hP hD hS hA (by decide) (by decide +kernel) (by decide) (Nat.le_of_ble_eq_true rfl) (Nat.le_of_ble_eq_true rfl) dX7_init_67 (fun q67 H hP hD hS => ?_)
  have hP : va_P (dC, dI) vwCl [(a_m, .inr (7, [.int 0, .int (1 : Int32), .int 0, .int (200 : Int32), .int (10 : Int32), .int (20 : Int32), .ref q31, .ref q39, .int (3 : Int32), .int 0, .ref q52, .long 0, .ref q59, .null, .int 0, .null, .null, .null])), (q31, .inl (kA, 42, .inl (fun _ => (0 : Int32)))), (q39, .inl (kA, 42, .inl (fun _ => (0 : Int32)))), (q52, .inl (kA, 16, .inl (fun _ => (0 : Int32)))), (q59, .inl (kA, 4, .inl (fun _ => (0 : Int32)))), (q67, .inl (kA, 96, .inl (fun _ => (0 : Int32))))] H := hP
  have hD : va_D A [(a_m, .inr (7, [.int 0, .int (1 : Int32), .int 0, .int (200 : Int32), .int (10 : Int32), .int (20 : Int32), .ref q31, .ref q39, .int (3 : Int32), .int 0, .ref q52, .long 0, .ref q59, .null, .int 0, .null, .null, .null])), (q31, .inl (kA, 42, .inl (fun _ => (0 : Int32)))), (q39, .inl (kA, 42, .inl (fun _ => (0 : Int32)))), (q52, .inl (kA, 16, .inl (fun _ => (0 : Int32)))), (q59, .inl (kA, 4, .inl (fun _ => (0 : Int32)))), (q67, .inl (kA, 96, .inl (fun _ => (0 : Int32))))] := hD
  refine va_putF (D := (dC, dI)) (ci := 7) (v := .ref q67) (ty := (.array .int)) (C := RX7) (T := TX7) (N := 18) hx hb hts (fun _ h => List.mem_cons_of_mem _ (List.mem_append_right _ h)) tyX7 tyX7_ok nmX7 hown hK hP hD hS 0 rfl rfl 13 (by decide) (hts (.fieldLink RX7 38 "RentOrBuyModel" "order" "[I") (List.mem_cons_of_mem _ (List.mem_append_left _ (List.mem_of_getElem? (i := 13) rfl)))) (fun _ h9 => h9) rfl hin rfl (by decide +kernel) rfl rfl (Nat.le_of_ble_eq_true rfl) dX7_init_69 (fun H locs hP hD hS => ?_)
  have hP : va_P (dC, dI) vwCl [(a_m, .inr (7, [.int 0, .int (1 : Int32), .int 0, .int (200 : Int32), .int (10 : Int32), .int (20 : Int32), .ref q31, .ref q39, .int (3 : Int32), .int 0, .ref q52, .long 0, .ref q59, .ref q67, .int 0, .null, .null, .null])), (q31, .inl (kA, 42, .inl (fun _ => (0 : Int32)))), (q39, .inl (kA, 42, .inl (fun _ => (0 : Int32)))), (q52, .inl (kA, 16, .inl (fun _ => (0 : Int32)))), (q59, .inl (kA, 4, .inl (fun _ => (0 : Int32)))), (q67, .inl (kA, 96, .inl (fun _ => (0 : Int32))))] H := hP
  have hD : va_D A [(a_m, .inr (7, [.int 0, .int (1 : Int32), .int 0, .int (200 : Int32), .int (10 : Int32), .int (20 : Int32), .ref q31, .ref q39, .int (3 : Int32), .int 0, .ref q52, .long 0, .ref q59, .ref q67, .int 0, .null, .null, .null])), (q31, .inl (kA, 42, .inl (fun _ => (0 : Int32)))), (q39, .inl (kA, 42, .inl (fun _ => (0 : Int32)))), (q52, .inl (kA, 16, .inl (fun _ => (0 : Int32)))), (q59, .inl (kA, 4, .inl (fun _ => (0 : Int32)))), (q67, .inl (kA, 96, .inl (fun _ => (0 : Int32))))] := hD
  refine lv_aload_n hx hb dX7_init_72 rfl (lv_at hl 0 rfl) ?_
  refine lv_bipush (v := (24 : Int32)) hx hb dX7_init_73 (by decide +kernel) ?_
  refine na_i (N' := 24) hx hb (hts (.arrayClass .int) (List.mem_cons_of_mem _ (List.mem_append_left _ (List.mem_of_getElem? (i := 7) rfl)))) hK hP hD hS hA (by decide) (by decide +kernel) (by decide) (Nat.le_of_ble_eq_true rfl) (Nat.le_of_ble_eq_true rfl) dX7_init_75 (fun q75 H hP hD hS => ?_)
  have hP : va_P (dC, dI) vwCl [(a_m, .inr (7, [.int 0, .int (1 : Int32), .int 0, .int (200 : Int32), .int (10 : Int32), .int (20 : Int32), .ref q31, .ref q39, .int (3 : Int32), .int 0, .ref q52, .long 0, .ref q59, .ref q67, .int 0, .null, .null, .null])), (q31, .inl (kA, 42, .inl (fun _ => (0 : Int32)))), (q39, .inl (kA, 42, .inl (fun _ => (0 : Int32)))), (q52, .inl (kA, 16, .inl (fun _ => (0 : Int32)))), (q59, .inl (kA, 4, .inl (fun _ => (0 : Int32)))), (q67, .inl (kA, 96, .inl (fun _ => (0 : Int32)))), (q75, .inl (kA, 24, .inl (fun _ => (0 : Int32))))] H := hP
  have hD : va_D A [(a_m, .inr (7, [.int 0, .int (1 : Int32), .int 0, .int (200 : Int32), .int (10 : Int32), .int (20 : Int32), .ref q31, .ref q39, .int (3 : Int32), .int 0, .ref q52, .long 0, .ref q59, .ref q67, .int 0, .null, .null, .null])), (q31, .inl (kA, 42, .inl (fun _ => (0 : Int32)))), (q39, .inl (kA, 42, .inl (fun _ => (0 : Int32)))), (q52, .inl (kA, 16, .inl (fun _ => (0 : Int32)))), (q59, .inl (kA, 4, .inl (fun _ => (0 : Int32)))), (q67, .inl (kA, 96, .inl (fun _ => (0 : Int32)))), (q75, .inl (kA, 24, .inl (fun _ => (0 : Int32))))] := hD
  refine va_putF (D := (dC, dI)) (ci := 7) (v := .ref q75) (ty := (.array .int)) (C := RX7) (T := TX7) (N := 18) hx hb hts (fun _ h => List.mem_cons_of_mem _ (List.mem_append_right _ h)) tyX7 tyX7_ok nmX7 hown hK hP hD hS 0 rfl rfl 15 (by decide) (hts (.fieldLink RX7 41 "RentOrBuyModel" "least" "[I") (List.mem_cons_of_mem _ (List.mem_append_left _ (List.mem_of_getElem? (i := 14) rfl)))) (fun _ h9 => h9) rfl hin rfl (by decide +kernel) rfl rfl (Nat.le_of_ble_eq_true rfl) dX7_init_77 (fun H locs hP hD hS => ?_)
  have hP : va_P (dC, dI) vwCl [(a_m, .inr (7, [.int 0, .int (1 : Int32), .int 0, .int (200 : Int32), .int (10 : Int32), .int (20 : Int32), .ref q31, .ref q39, .int (3 : Int32), .int 0, .ref q52, .long 0, .ref q59, .ref q67, .int 0, .ref q75, .null, .null])), (q31, .inl (kA, 42, .inl (fun _ => (0 : Int32)))), (q39, .inl (kA, 42, .inl (fun _ => (0 : Int32)))), (q52, .inl (kA, 16, .inl (fun _ => (0 : Int32)))), (q59, .inl (kA, 4, .inl (fun _ => (0 : Int32)))), (q67, .inl (kA, 96, .inl (fun _ => (0 : Int32)))), (q75, .inl (kA, 24, .inl (fun _ => (0 : Int32))))] H := hP
  have hD : va_D A [(a_m, .inr (7, [.int 0, .int (1 : Int32), .int 0, .int (200 : Int32), .int (10 : Int32), .int (20 : Int32), .ref q31, .ref q39, .int (3 : Int32), .int 0, .ref q52, .long 0, .ref q59, .ref q67, .int 0, .ref q75, .null, .null])), (q31, .inl (kA, 42, .inl (fun _ => (0 : Int32)))), (q39, .inl (kA, 42, .inl (fun _ => (0 : Int32)))), (q52, .inl (kA, 16, .inl (fun _ => (0 : Int32)))), (q59, .inl (kA, 4, .inl (fun _ => (0 : Int32)))), (q67, .inl (kA, 96, .inl (fun _ => (0 : Int32)))), (q75, .inl (kA, 24, .inl (fun _ => (0 : Int32))))] := hD
  refine lv_aload_n hx hb dX7_init_80 rfl (lv_at hl 0 rfl) ?_
  refine lv_bipush (v := (24 : Int32)) hx hb dX7_init_81 (by decide +kernel) ?_
  refine na_i (N' := 24) hx hb (hts (.arrayClass .int) (List.mem_cons_of_mem _ (List.mem_append_left _ (List.mem_of_getElem? (i := 7) rfl)))) hK hP hD hS hA (by decide) (by decide +kernel) (by decide) (Nat.le_of_ble_eq_true rfl) (Nat.le_of_ble_eq_true rfl) dX7_init_83 (fun q83 H hP hD hS => ?_)
  have hP : va_P (dC, dI) vwCl [(a_m, .inr (7, [.int 0, .int (1 : Int32), .int 0, .int (200 : Int32), .int (10 : Int32), .int (20 : Int32), .ref q31, .ref q39, .int (3 : Int32), .int 0, .ref q52, .long 0, .ref q59, .ref q67, .int 0, .ref q75, .null, .null])), (q31, .inl (kA, 42, .inl (fun _ => (0 : Int32)))), (q39, .inl (kA, 42, .inl (fun _ => (0 : Int32)))), (q52, .inl (kA, 16, .inl (fun _ => (0 : Int32)))), (q59, .inl (kA, 4, .inl (fun _ => (0 : Int32)))), (q67, .inl (kA, 96, .inl (fun _ => (0 : Int32)))), (q75, .inl (kA, 24, .inl (fun _ => (0 : Int32)))), (q83, .inl (kA, 24, .inl (fun _ => (0 : Int32))))] H := hP
  have hD : va_D A [(a_m, .inr (7, [.int 0, .int (1 : Int32), .int 0, .int (200 : Int32), .int (10 : Int32), .int (20 : Int32), .ref q31, .ref q39, .int (3 : Int32), .int 0, .ref q52, .long 0, .ref q59, .ref q67, .int 0, .ref q75, .null, .null])), (q31, .inl (kA, 42, .inl (fun _ => (0 : Int32)))), (q39, .inl (kA, 42, .inl (fun _ => (0 : Int32)))), (q52, .inl (kA, 16, .inl (fun _ => (0 : Int32)))), (q59, .inl (kA, 4, .inl (fun _ => (0 : Int32)))), (q67, .inl (kA, 96, .inl (fun _ => (0 : Int32)))), (q75, .inl (kA, 24, .inl (fun _ => (0 : Int32)))), (q83, .inl (kA, 24, .inl (fun _ => (0 : Int32))))] := hD
  refine va_putF (D := (dC, dI)) (ci := 7) (v := .ref q83) (ty := (.array .int)) (C := RX7) (T := TX7) (N := 18) hx hb hts (fun _ h => List.mem_cons_of_mem _ (List.mem_append_right _ h)) tyX7 tyX7_ok nmX7 hown hK hP hD hS 0 rfl rfl 16 (by decide) (hts (.fieldLink RX7 44 "RentOrBuyModel" "then" "[I") (List.mem_cons_of_mem _ (List.mem_append_left _ (List.mem_of_getElem? (i := 15) rfl)))) (fun _ h9 => h9) rfl hin rfl (by decide +kernel) rfl rfl (Nat.le_of_ble_eq_true rfl) dX7_init_85 (fun H locs hP hD hS => ?_)
  have hP : va_P (dC, dI) vwCl [(a_m, .inr (7, [.int 0, .int (1 : Int32), .int 0, .int (200 : Int32), .int (10 : Int32), .int (20 : Int32), .ref q31, .ref q39, .int (3 : Int32), .int 0, .ref q52, .long 0, .ref q59, .ref q67, .int 0, .ref q75, .ref q83, .null])), (q31, .inl (kA, 42, .inl (fun _ => (0 : Int32)))), (q39, .inl (kA, 42, .inl (fun _ => (0 : Int32)))), (q52, .inl (kA, 16, .inl (fun _ => (0 : Int32)))), (q59, .inl (kA, 4, .inl (fun _ => (0 : Int32)))), (q67, .inl (kA, 96, .inl (fun _ => (0 : Int32)))), (q75, .inl (kA, 24, .inl (fun _ => (0 : Int32)))), (q83, .inl (kA, 24, .inl (fun _ => (0 : Int32))))] H := hP
  have hD : va_D A [(a_m, .inr (7, [.int 0, .int (1 : Int32), .int 0, .int (200 : Int32), .int (10 : Int32), .int (20 : Int32), .ref q31, .ref q39, .int (3 : Int32), .int 0, .ref q52, .long 0, .ref q59, .ref q67, .int 0, .ref q75, .ref q83, .null])), (q31, .inl (kA, 42, .inl (fun _ => (0 : Int32)))), (q39, .inl (kA, 42, .inl (fun _ => (0 : Int32)))), (q52, .inl (kA, 16, .inl (fun _ => (0 : Int32)))), (q59, .inl (kA, 4, .inl (fun _ => (0 : Int32)))), (q67, .inl (kA, 96, .inl (fun _ => (0 : Int32)))), (q75, .inl (kA, 24, .inl (fun _ => (0 : Int32)))), (q83, .inl (kA, 24, .inl (fun _ => (0 : Int32))))] := hD
  refine lv_aload_n hx hb dX7_init_88 rfl (lv_at hl 0 rfl) ?_
  refine lv_sipush (v := (576 : Int32)) hx hb dX7_init_89 (by decide +kernel) ?_
  refine na_i (N' := 576) hx hb (hts (.arrayClass .int) (List.mem_cons_of_mem _ (List.mem_append_left _ (List.mem_of_getElem? (i := 7) rfl)))) hK hP hD hS hA (by decide) (by decide +kernel) (by decide) (Nat.le_of_ble_eq_true rfl) (Nat.le_of_ble_eq_true rfl) dX7_init_92 (fun q92 H hP hD hS => ?_)
  have hP : va_P (dC, dI) vwCl [(a_m, .inr (7, [.int 0, .int (1 : Int32), .int 0, .int (200 : Int32), .int (10 : Int32), .int (20 : Int32), .ref q31, .ref q39, .int (3 : Int32), .int 0, .ref q52, .long 0, .ref q59, .ref q67, .int 0, .ref q75, .ref q83, .null])), (q31, .inl (kA, 42, .inl (fun _ => (0 : Int32)))), (q39, .inl (kA, 42, .inl (fun _ => (0 : Int32)))), (q52, .inl (kA, 16, .inl (fun _ => (0 : Int32)))), (q59, .inl (kA, 4, .inl (fun _ => (0 : Int32)))), (q67, .inl (kA, 96, .inl (fun _ => (0 : Int32)))), (q75, .inl (kA, 24, .inl (fun _ => (0 : Int32)))), (q83, .inl (kA, 24, .inl (fun _ => (0 : Int32)))), (q92, .inl (kA, 576, .inl (fun _ => (0 : Int32))))] H := hP
  have hD : va_D A [(a_m, .inr (7, [.int 0, .int (1 : Int32), .int 0, .int (200 : Int32), .int (10 : Int32), .int (20 : Int32), .ref q31, .ref q39, .int (3 : Int32), .int 0, .ref q52, .long 0, .ref q59, .ref q67, .int 0, .ref q75, .ref q83, .null])), (q31, .inl (kA, 42, .inl (fun _ => (0 : Int32)))), (q39, .inl (kA, 42, .inl (fun _ => (0 : Int32)))), (q52, .inl (kA, 16, .inl (fun _ => (0 : Int32)))), (q59, .inl (kA, 4, .inl (fun _ => (0 : Int32)))), (q67, .inl (kA, 96, .inl (fun _ => (0 : Int32)))), (q75, .inl (kA, 24, .inl (fun _ => (0 : Int32)))), (q83, .inl (kA, 24, .inl (fun _ => (0 : Int32)))), (q92, .inl (kA, 576, .inl (fun _ => (0 : Int32))))] := hD
  refine va_putF (D := (dC, dI)) (ci := 7) (v := .ref q92) (ty := (.array .int)) (C := RX7) (T := TX7) (N := 18) hx hb hts (fun _ h => List.mem_cons_of_mem _ (List.mem_append_right _ h)) tyX7 tyX7_ok nmX7 hown hK hP hD hS 0 rfl rfl 17 (by decide) (hts (.fieldLink RX7 47 "RentOrBuyModel" "far" "[I") (List.mem_cons_of_mem _ (List.mem_append_left _ (List.mem_of_getElem? (i := 16) rfl)))) (fun _ h9 => h9) rfl hin rfl (by decide +kernel) rfl rfl (Nat.le_of_ble_eq_true rfl) dX7_init_94 (fun H locs hP hD hS => ?_)
  have hP : va_P (dC, dI) vwCl [(a_m, .inr (7, [.int 0, .int (1 : Int32), .int 0, .int (200 : Int32), .int (10 : Int32), .int (20 : Int32), .ref q31, .ref q39, .int (3 : Int32), .int 0, .ref q52, .long 0, .ref q59, .ref q67, .int 0, .ref q75, .ref q83, .ref q92])), (q31, .inl (kA, 42, .inl (fun _ => (0 : Int32)))), (q39, .inl (kA, 42, .inl (fun _ => (0 : Int32)))), (q52, .inl (kA, 16, .inl (fun _ => (0 : Int32)))), (q59, .inl (kA, 4, .inl (fun _ => (0 : Int32)))), (q67, .inl (kA, 96, .inl (fun _ => (0 : Int32)))), (q75, .inl (kA, 24, .inl (fun _ => (0 : Int32)))), (q83, .inl (kA, 24, .inl (fun _ => (0 : Int32)))), (q92, .inl (kA, 576, .inl (fun _ => (0 : Int32))))] H := hP
  have hD : va_D A [(a_m, .inr (7, [.int 0, .int (1 : Int32), .int 0, .int (200 : Int32), .int (10 : Int32), .int (20 : Int32), .ref q31, .ref q39, .int (3 : Int32), .int 0, .ref q52, .long 0, .ref q59, .ref q67, .int 0, .ref q75, .ref q83, .ref q92])), (q31, .inl (kA, 42, .inl (fun _ => (0 : Int32)))), (q39, .inl (kA, 42, .inl (fun _ => (0 : Int32)))), (q52, .inl (kA, 16, .inl (fun _ => (0 : Int32)))), (q59, .inl (kA, 4, .inl (fun _ => (0 : Int32)))), (q67, .inl (kA, 96, .inl (fun _ => (0 : Int32)))), (q75, .inl (kA, 24, .inl (fun _ => (0 : Int32)))), (q83, .inl (kA, 24, .inl (fun _ => (0 : Int32)))), (q92, .inl (kA, 576, .inl (fun _ => (0 : Int32))))] := hD
  refine lv_aload_n hx hb dX7_init_97 rfl (lv_at hl 0 rfl) ?_
  refine lv_iconst (v := (0 : Int32)) hx hb dX7_init_98 (by decide +kernel) ?_
  refine va_put (D := (dC, dI)) (ci := 7) (v := .int (0 : Int32)) (ty := .int) (C := RX7) (T := TX7) (N := 18) hx hb hts (fun _ h => List.mem_cons_of_mem _ (List.mem_append_right _ h)) tyX7 tyX7_ok nmX7 hown hK hP hD hS 0 rfl rfl 9 (by decide) (hts (.fieldLink RX7 50 "RentOrBuyModel" "requests" "I") (List.mem_cons_of_mem _ (List.mem_append_left _ (List.mem_of_getElem? (i := 17) rfl)))) (fun _ h9 => h9) rfl (by decide +kernel) rfl rfl (Nat.le_of_ble_eq_true rfl) dX7_init_99 (fun H locs hP hD hS => ?_)
  have hP : va_P (dC, dI) vwCl [(a_m, .inr (7, [.int 0, .int (1 : Int32), .int 0, .int (200 : Int32), .int (10 : Int32), .int (20 : Int32), .ref q31, .ref q39, .int (3 : Int32), .int (0 : Int32), .ref q52, .long 0, .ref q59, .ref q67, .int 0, .ref q75, .ref q83, .ref q92])), (q31, .inl (kA, 42, .inl (fun _ => (0 : Int32)))), (q39, .inl (kA, 42, .inl (fun _ => (0 : Int32)))), (q52, .inl (kA, 16, .inl (fun _ => (0 : Int32)))), (q59, .inl (kA, 4, .inl (fun _ => (0 : Int32)))), (q67, .inl (kA, 96, .inl (fun _ => (0 : Int32)))), (q75, .inl (kA, 24, .inl (fun _ => (0 : Int32)))), (q83, .inl (kA, 24, .inl (fun _ => (0 : Int32)))), (q92, .inl (kA, 576, .inl (fun _ => (0 : Int32))))] H := hP
  have hD : va_D A [(a_m, .inr (7, [.int 0, .int (1 : Int32), .int 0, .int (200 : Int32), .int (10 : Int32), .int (20 : Int32), .ref q31, .ref q39, .int (3 : Int32), .int (0 : Int32), .ref q52, .long 0, .ref q59, .ref q67, .int 0, .ref q75, .ref q83, .ref q92])), (q31, .inl (kA, 42, .inl (fun _ => (0 : Int32)))), (q39, .inl (kA, 42, .inl (fun _ => (0 : Int32)))), (q52, .inl (kA, 16, .inl (fun _ => (0 : Int32)))), (q59, .inl (kA, 4, .inl (fun _ => (0 : Int32)))), (q67, .inl (kA, 96, .inl (fun _ => (0 : Int32)))), (q75, .inl (kA, 24, .inl (fun _ => (0 : Int32)))), (q83, .inl (kA, 24, .inl (fun _ => (0 : Int32)))), (q92, .inl (kA, 576, .inl (fun _ => (0 : Int32))))] := hD
  rw [hQ]
  exact rt_v ((1 : Int32), (200 : Int32), (10 : Int32), (20 : Int32), (3 : Int32), (0 : Int32), (fun _ => (0 : Int32)), (fun _ => (0 : Int32)), (fun _ => (0 : Int32)), (fun _ => (0 : Int32)), (fun _ => (0 : Int32)), (fun _ => (0 : Int32)), (fun _ => (0 : Int32)), (fun _ => (0 : Int32)), q31, q39, q52, q59, q67, q75, q83, q92) hx hb hr hlocks h hP hD hS dX7_init_102

/-- RentOrBuyModel.known -/
def rmX7_known : Room := { frames := 3, cells := 0, slots := 0, locals := 67 }
set_option maxHeartbeats 4000000 in
set_option maxRecDepth 100000 in
theorem c_X7_known (l : Launch) (dC : Nat → ClassId) (dI : Nat → Nat → Nat) (kA : ClassId) (a_m a_mp a_me a_mq a_mr a_mo a_ml a_mt a_mf : Nat) (sz : Nat) (mkd : Int32) (mrt : Int32) (mri : Int32) (mca : Int32) (mpr : Int32) (men : Int32) (mth : Int32) (mrq : Int32) (mtr : Int64) (mos : Int32) (p1 : Int32) (K : Int32 → Prop) (hg : g_X7_known mkd mrt mri mca mpr men mth mrq mtr mos p1 K) : Met l yX7_known wsX7_known rmX7_known (va_Pc [.ref a_m, .int p1] (prW (dC, dI) kA sz [(a_m, .inr (7, [.int mkd, .int mrt, .int mri, .int mca, .int mpr, .int men, .ref a_mp, .ref a_me, .int mth, .int mrq, .ref a_mq, .long mtr, .ref a_mr, .ref a_mo, .int mos, .ref a_ml, .ref a_mt, .ref a_mf]))])) (va_Qi (fun (r : Int32) (u : Unit) => K r) (poW (dC, dI) (va_A [(a_m, .inr (7, [.int mkd, .int mrt, .int mri, .int mca, .int mpr, .int men, .ref a_mp, .ref a_me, .int mth, .int mrq, .ref a_mq, .long mtr, .ref a_mr, .ref a_mo, .int mos, .ref a_ml, .ref a_mt, .ref a_mf]))] sz) (fun (u : Unit) => [(a_m, .inr (7, [.int mkd, .int mrt, .int mri, .int mca, .int mpr, .int men, .ref a_mp, .ref a_me, .int mth, .int mrq, .ref a_mq, .long mtr, .ref a_mr, .ref a_mo, .int mos, .ref a_ml, .ref a_mt, .ref a_mf]))])) (va_A [(a_m, .inr (7, [.int mkd, .int mrt, .int mri, .int mca, .int mpr, .int men, .ref a_mp, .ref a_me, .int mth, .int mrq, .ref a_mq, .long mtr, .ref a_mr, .ref a_mo, .int mos, .ref a_ml, .ref a_mt, .ref a_mf]))] sz)) 0 0 (va_A [(a_m, .inr (7, [.int mkd, .int mrt, .int mri, .int mca, .int mpr, .int men, .ref a_mp, .ref a_me, .int mth, .int mrq, .ref a_mq, .long mtr, .ref a_mr, .ref a_mo, .int mos, .ref a_ml, .ref a_mt, .ref a_mf]))] sz) := by
  refine Met.ofW (cc := cX7_known) (maxL := 2) (ret := (some .int)) (by decide) rfl ?_
  intro p e s m args below meth c s₁ B hml hv
  obtain ⟨hargs, hsz, hP, hK, hD0, hN⟩ := hv
  have hx := B.exec
  have hb := B.bytes
  have hr := B.returns
  have hts := atoms_spec (ws := wsX7_known) B.pre
  have hown : s.vm.findClass RX7 = some m.cls := findClass_of_methodNamed B.named
  have hlocks := B.notSynchronized
  subst hsz
  have hD := hD0.self (sz := s.heap.size)
  generalize hAe : va_A [(a_m, .inr (7, [.int mkd, .int mrt, .int mri, .int mca, .int mpr, .int men, .ref a_mp, .ref a_me, .int mth, .int mrq, .ref a_mq, .long mtr, .ref a_mr, .ref a_mo, .int mos, .ref a_ml, .ref a_mt, .ref a_mf]))] s.heap.size = A at hD ⊢
  have hA : ∀ q : Nat, s.heap.size ≤ q → A q := fun q h => by rw [← hAe]; exact Or.inr h
  have hS : va_S A s.heap s.heap [] := va_S.rf
  obtain ⟨Q, hQ⟩ : ∃ Q : State → Prop, Q = MQ below (va_Qi (fun (r : Int32) (u : Unit) => K r) (poW (dC, dI) A (fun (u : Unit) => [(a_m, .inr (7, [.int mkd, .int mrt, .int mri, .int mca, .int mpr, .int men, .ref a_mp, .ref a_me, .int mth, .int mrq, .ref a_mq, .long mtr, .ref a_mr, .ref a_mo, .int mos, .ref a_ml, .ref a_mt, .ref a_mf]))])) A) args s 0 0 A := ⟨_, rfl⟩
  rw [← hQ]
  have hP : va_P (dC, dI) vwCl [(a_m, .inr (7, [.int mkd, .int mrt, .int mri, .int mca, .int mpr, .int men, .ref a_mp, .ref a_me, .int mth, .int mrq, .ref a_mq, .long mtr, .ref a_mr, .ref a_mo, .int mos, .ref a_ml, .ref a_mt, .ref a_mf]))] s.heap := hP
  refine en_ok hargs (Nat.le_of_ble_eq_true rfl) (fun ls hl => ?_)
  have hl : lv_has ls 2 [(0, .ref a_m), (1, .int p1)] := hl
  have h := hg
  unfold g_X7_known at h
  refine lv_aload_n hx hb dX7_known_0 rfl (lv_at hl 0 rfl) ?_
  refine lv_iload_n hx hb dX7_known_1 rfl (lv_at hl 1 rfl) ?_
  have hPc := hP.sub (ws' := [(a_m, .inr (7, [.int mkd, .int mrt, .int mri, .int mca, .int mpr, .int men, .ref a_mp, .ref a_me, .int mth, .int mrq, .ref a_mq, .long mtr, .ref a_mr, .ref a_mo, .int mos, .ref a_ml, .ref a_mt, .ref a_mf]))]) [0] rfl
  have hDc := hD.sub (ws' := [(a_m, .inr (7, [.int mkd, .int mrt, .int mri, .int mca, .int mpr, .int men, .ref a_mp, .ref a_me, .int mth, .int mrq, .ref a_mq, .long mtr, .ref a_mr, .ref a_mo, .int mos, .ref a_ml, .ref a_mt, .ref a_mf]))]) [0] (by decide) rfl
  refine fr_i (wr := []) (WN := fun (u2 : Unit) => [(a_m, .inr (7, [.int mkd, .int mrt, .int mri, .int mca, .int mpr, .int men, .ref a_mp, .ref a_me, .int mth, .int mrq, .ref a_mq, .long mtr, .ref a_mr, .ref a_mo, .int mos, .ref a_ml, .ref a_mt, .ref a_mf]))]) (va_runV (As := [.int p1]) (rest := []) ⟨hx, hb, hml, hown, hts⟩ (c_X7_isEnd l dC dI kA a_m a_mp a_me a_mq a_mr a_mo a_ml a_mt a_mf s.heap.size mkd mrt mri mca mpr men mth mrq mtr mos p1 _ h) (cwV 1 hts gX7_known_X7_isEnd rfl rfl rfl (by decide +kernel) ⟨Nat.le_of_ble_eq_true rfl, Nat.le_of_ble_eq_true rfl⟩) (prW.preV (ci := 7) (q0 := 0) hPc hDc hK hN rfl rfl) rfl rfl hl.1 rfl (lv_room (Nat.le_of_ble_eq_true rfl)) dX7_known_2 ⟨Nat.le_of_ble_eq_true rfl, Nat.le_of_ble_eq_true rfl⟩) hP hD hS hA [0] [] rfl rfl (by decide) (by decide) [0] (by decide) (fun _ => rfl) (fun r2 u2 H locs h hP hD hS => ?_)
  have hP : va_P (dC, dI) vwCl [(a_m, .inr (7, [.int mkd, .int mrt, .int mri, .int mca, .int mpr, .int men, .ref a_mp, .ref a_me, .int mth, .int mrq, .ref a_mq, .long mtr, .ref a_mr, .ref a_mo, .int mos, .ref a_ml, .ref a_mt, .ref a_mf]))] H := hP
  have hD : va_D A [(a_m, .inr (7, [.int mkd, .int mrt, .int mri, .int mca, .int mpr, .int men, .ref a_mp, .ref a_me, .int mth, .int mrq, .ref a_mq, .long mtr, .ref a_mr, .ref a_mo, .int mos, .ref a_ml, .ref a_mt, .ref a_mf]))] := hD
  refine lv_if_eq (tgt := 16) hx hb dX7_known_5 (by decide) (fun c5 => ?_) (fun c5 => ?_)
  · replace h := h.1 c5
    refine lv_iconst (v := (-1 : Int32)) hx hb dX7_known_16 (by decide +kernel) ?_
    rw [hQ]
    exact rt_i () hx hb hr hlocks h hP hD hS dX7_known_17
  · replace h := h.2 c5
    refine lv_aload_n hx hb dX7_known_8 rfl (lv_at hl 0 rfl) ?_
    refine lv_iload_n hx hb dX7_known_9 rfl (lv_at hl 1 rfl) ?_
    have hPc := hP.sub (ws' := [(a_m, .inr (7, [.int mkd, .int mrt, .int mri, .int mca, .int mpr, .int men, .ref a_mp, .ref a_me, .int mth, .int mrq, .ref a_mq, .long mtr, .ref a_mr, .ref a_mo, .int mos, .ref a_ml, .ref a_mt, .ref a_mf]))]) [0] rfl
    have hDc := hD.sub (ws' := [(a_m, .inr (7, [.int mkd, .int mrt, .int mri, .int mca, .int mpr, .int men, .ref a_mp, .ref a_me, .int mth, .int mrq, .ref a_mq, .long mtr, .ref a_mr, .ref a_mo, .int mos, .ref a_ml, .ref a_mt, .ref a_mf]))]) [0] (by decide) rfl
    refine fr_i (wr := []) (WN := fun (u10 : Unit) => [(a_m, .inr (7, [.int mkd, .int mrt, .int mri, .int mca, .int mpr, .int men, .ref a_mp, .ref a_me, .int mth, .int mrq, .ref a_mq, .long mtr, .ref a_mr, .ref a_mo, .int mos, .ref a_ml, .ref a_mt, .ref a_mf]))]) (va_runV (As := [.int p1]) (rest := []) ⟨hx, hb, hml, hown, hts⟩ (c_X7_knownBy l dC dI kA a_m a_mp a_me a_mq a_mr a_mo a_ml a_mt a_mf H.size mkd mrt mri mca mpr men mth mrq mtr mos p1 _ h) (cwV 1 hts gX7_known_X7_knownBy rfl rfl rfl (by decide +kernel) ⟨Nat.le_of_ble_eq_true rfl, Nat.le_of_ble_eq_true rfl⟩) (prW.preV (ci := 7) (q0 := 0) hPc hDc hK hN rfl rfl) rfl rfl hl.1 rfl (lv_room (Nat.le_of_ble_eq_true rfl)) dX7_known_10 ⟨Nat.le_of_ble_eq_true rfl, Nat.le_of_ble_eq_true rfl⟩) hP hD hS hA [0] [] rfl rfl (by decide) (by decide) [0] (by decide) (fun _ => rfl) (fun r10 u10 H locs h hP hD hS => ?_)
    have hP : va_P (dC, dI) vwCl [(a_m, .inr (7, [.int mkd, .int mrt, .int mri, .int mca, .int mpr, .int men, .ref a_mp, .ref a_me, .int mth, .int mrq, .ref a_mq, .long mtr, .ref a_mr, .ref a_mo, .int mos, .ref a_ml, .ref a_mt, .ref a_mf]))] H := hP
    have hD : va_D A [(a_m, .inr (7, [.int mkd, .int mrt, .int mri, .int mca, .int mpr, .int men, .ref a_mp, .ref a_me, .int mth, .int mrq, .ref a_mq, .long mtr, .ref a_mr, .ref a_mo, .int mos, .ref a_ml, .ref a_mt, .ref a_mf]))] := hD
    refine lv_goto (tgt := 17) hx hb dX7_known_13 (by decide) ?_
    rw [hQ]
    exact rt_i () hx hb hr hlocks h hP hD hS dX7_known_17

/-- RentOrBuyModel.list -/
def rmX7_list : Room := { frames := 1, cells := 0, slots := 0, locals := 22 }
set_option maxHeartbeats 4000000 in
set_option maxRecDepth 100000 in
theorem c_X7_list (l : Launch) (dC : Nat → ClassId) (dI : Nat → Nat → Nat) (kA : ClassId) (a_m a_mp a_me a_mq a_mr a_mo a_ml a_mt a_mf : Nat) (sz : Nat) (mkd : Int32) (mrt : Int32) (mri : Int32) (mca : Int32) (mpr : Int32) (men : Int32) (mth : Int32) (mrq : Int32) (mtr : Int64) (mos : Int32) (p1 : Int32) (K : Int32 → Int32 → Int32 → Prop) (hg : g_X7_list mkd mrt mri mca mpr men mth mrq mtr mos p1 K) : Met l yX7_list wsX7_list rmX7_list (va_Pc [.ref a_m, .int p1] (prW (dC, dI) kA sz [(a_m, .inr (7, [.int mkd, .int mrt, .int mri, .int mca, .int mpr, .int men, .ref a_mp, .ref a_me, .int mth, .int mrq, .ref a_mq, .long mtr, .ref a_mr, .ref a_mo, .int mos, .ref a_ml, .ref a_mt, .ref a_mf]))])) (va_Qi (fun (r : Int32) (u : Int32 × Int32) => K r u.1 u.2) (poW (dC, dI) (va_A [(a_m, .inr (7, [.int mkd, .int mrt, .int mri, .int mca, .int mpr, .int men, .ref a_mp, .ref a_me, .int mth, .int mrq, .ref a_mq, .long mtr, .ref a_mr, .ref a_mo, .int mos, .ref a_ml, .ref a_mt, .ref a_mf]))] sz) (fun (u : Int32 × Int32) => [(a_m, .inr (7, [.int mkd, .int mrt, .int mri, .int mca, .int mpr, .int men, .ref a_mp, .ref a_me, .int u.1, .int u.2, .ref a_mq, .long mtr, .ref a_mr, .ref a_mo, .int mos, .ref a_ml, .ref a_mt, .ref a_mf]))])) (va_A [(a_m, .inr (7, [.int mkd, .int mrt, .int mri, .int mca, .int mpr, .int men, .ref a_mp, .ref a_me, .int mth, .int mrq, .ref a_mq, .long mtr, .ref a_mr, .ref a_mo, .int mos, .ref a_ml, .ref a_mt, .ref a_mf]))] sz)) 0 0 (va_A [(a_m, .inr (7, [.int mkd, .int mrt, .int mri, .int mca, .int mpr, .int men, .ref a_mp, .ref a_me, .int mth, .int mrq, .ref a_mq, .long mtr, .ref a_mr, .ref a_mo, .int mos, .ref a_ml, .ref a_mt, .ref a_mf]))] sz) := by
  refine Met.ofW (cc := cX7_list) (maxL := 3) (ret := (some .int)) (by decide) rfl ?_
  intro p e s m args below meth c s₁ B hml hv
  obtain ⟨hargs, hsz, hP, hK, hD0, hN⟩ := hv
  have hx := B.exec
  have hb := B.bytes
  have hr := B.returns
  have hts := atoms_spec (ws := wsX7_list) B.pre
  have hown : s.vm.findClass RX7 = some m.cls := findClass_of_methodNamed B.named
  have hlocks := B.notSynchronized
  subst hsz
  have hD := hD0.self (sz := s.heap.size)
  generalize hAe : va_A [(a_m, .inr (7, [.int mkd, .int mrt, .int mri, .int mca, .int mpr, .int men, .ref a_mp, .ref a_me, .int mth, .int mrq, .ref a_mq, .long mtr, .ref a_mr, .ref a_mo, .int mos, .ref a_ml, .ref a_mt, .ref a_mf]))] s.heap.size = A at hD ⊢
  have hA : ∀ q : Nat, s.heap.size ≤ q → A q := fun q h => by rw [← hAe]; exact Or.inr h
  have hS : va_S A s.heap s.heap [] := va_S.rf
  obtain ⟨Q, hQ⟩ : ∃ Q : State → Prop, Q = MQ below (va_Qi (fun (r : Int32) (u : Int32 × Int32) => K r u.1 u.2) (poW (dC, dI) A (fun (u : Int32 × Int32) => [(a_m, .inr (7, [.int mkd, .int mrt, .int mri, .int mca, .int mpr, .int men, .ref a_mp, .ref a_me, .int u.1, .int u.2, .ref a_mq, .long mtr, .ref a_mr, .ref a_mo, .int mos, .ref a_ml, .ref a_mt, .ref a_mf]))])) A) args s 0 0 A := ⟨_, rfl⟩
  rw [← hQ]
  have hP : va_P (dC, dI) vwCl [(a_m, .inr (7, [.int mkd, .int mrt, .int mri, .int mca, .int mpr, .int men, .ref a_mp, .ref a_me, .int mth, .int mrq, .ref a_mq, .long mtr, .ref a_mr, .ref a_mo, .int mos, .ref a_ml, .ref a_mt, .ref a_mf]))] s.heap := hP
  refine en_ok hargs (Nat.le_of_ble_eq_true rfl) (fun ls hl => ?_)
  have hl : lv_has ls 3 [(0, .ref a_m), (1, .int p1)] := hl
  have h := hg
  unfold g_X7_list at h
  refine lv_iload_n hx hb dX7_list_0 rfl (lv_at hl 1 rfl) ?_
  refine lv_iconst (v := (1 : Int32)) hx hb dX7_list_1 (by decide +kernel) ?_
  refine lv_iconst (v := (4 : Int32)) hx hb dX7_list_2 (by decide +kernel) ?_
  have hPc := hP.sub (ws' := []) [] rfl
  have hDc := hD.sub (ws' := []) [] (by decide) rfl
  refine fr_i (wr := [(a_m, .inr (7, [.int mkd, .int mrt, .int mri, .int mca, .int mpr, .int men, .ref a_mp, .ref a_me, .int mth, .int mrq, .ref a_mq, .long mtr, .ref a_mr, .ref a_mo, .int mos, .ref a_ml, .ref a_mt, .ref a_mf]))]) (WN := fun (u3 : Unit) => [(a_m, .inr (7, [.int mkd, .int mrt, .int mri, .int mca, .int mpr, .int men, .ref a_mp, .ref a_me, .int mth, .int mrq, .ref a_mq, .long mtr, .ref a_mr, .ref a_mo, .int mos, .ref a_ml, .ref a_mt, .ref a_mf]))]) (va_runS (As := [.int p1, .int (1 : Int32), .int (4 : Int32)]) (rest := []) ⟨hx, hb, hml, hown, hts⟩ (c_X7_in l dC dI kA s.heap.size p1 (1 : Int32) (4 : Int32) _ h) (va_cwS 3 hts gX7_list_X7_in rfl rfl rfl (by decide +kernel) ⟨Nat.le_of_ble_eq_true rfl, Nat.le_of_ble_eq_true rfl⟩) (prW.preS hPc hDc hK hN) rfl rfl hl.1 rfl (lv_room (Nat.le_of_ble_eq_true rfl)) dX7_list_3 ⟨Nat.le_of_ble_eq_true rfl, Nat.le_of_ble_eq_true rfl⟩) hP hD hS hA [] [0] rfl rfl (by decide) (by decide) [0] (by decide) (fun _ => rfl) (fun r3 u3 H locs h hP hD hS => ?_)
  have hP : va_P (dC, dI) vwCl [(a_m, .inr (7, [.int mkd, .int mrt, .int mri, .int mca, .int mpr, .int men, .ref a_mp, .ref a_me, .int mth, .int mrq, .ref a_mq, .long mtr, .ref a_mr, .ref a_mo, .int mos, .ref a_ml, .ref a_mt, .ref a_mf]))] H := hP
  have hD : va_D A [(a_m, .inr (7, [.int mkd, .int mrt, .int mri, .int mca, .int mpr, .int men, .ref a_mp, .ref a_me, .int mth, .int mrq, .ref a_mq, .long mtr, .ref a_mr, .ref a_mo, .int mos, .ref a_ml, .ref a_mt, .ref a_mf]))] := hD
  refine lv_if_ne (tgt := 11) hx hb dX7_list_6 (by decide) (fun c6 => ?_) (fun c6 => ?_)
  · replace h := h.1 c6
    refine lv_aload_n hx hb dX7_list_11 rfl (lv_at hl 0 rfl) ?_
    refine va_get (D := (dC, dI)) (ci := 7) (v := .int mth) (C := RX7) (T := TX7) (N := 18) hx hb hts (fun _ h => List.mem_cons_of_mem _ (List.mem_append_right _ h)) hown hK hP 0 rfl rfl 8 (by decide) (hts (.fieldLink RX7 29 "RentOrBuyModel" "things" "I") (List.mem_cons_of_mem _ (List.mem_append_left _ (List.mem_of_getElem? (i := 0) rfl)))) (fun _ h9 => h9) rfl dX7_list_12 ?_
    refine lv_istore_n (lv' := [(2, .int mth), (0, .ref a_m), (1, .int p1)]) hx hb dX7_list_15 rfl hl (by decide) rfl (fun ls hl => ?_)
    refine lv_aload_n hx hb dX7_list_16 rfl (lv_at hl 1 rfl) ?_
    refine lv_iload_n hx hb dX7_list_17 rfl (lv_at hl 2 rfl) ?_
    refine va_put (D := (dC, dI)) (ci := 7) (v := .int p1) (ty := .int) (C := RX7) (T := TX7) (N := 18) hx hb hts (fun _ h => List.mem_cons_of_mem _ (List.mem_append_right _ h)) tyX7 tyX7_ok nmX7 hown hK hP hD hS 0 rfl rfl 8 (by decide) (hts (.fieldLink RX7 29 "RentOrBuyModel" "things" "I") (List.mem_cons_of_mem _ (List.mem_append_left _ (List.mem_of_getElem? (i := 0) rfl)))) (fun _ h9 => h9) rfl (by decide +kernel) rfl rfl (Nat.le_of_ble_eq_true rfl) dX7_list_18 (fun H locs hP hD hS => ?_)
    have hP : va_P (dC, dI) vwCl [(a_m, .inr (7, [.int mkd, .int mrt, .int mri, .int mca, .int mpr, .int men, .ref a_mp, .ref a_me, .int p1, .int mrq, .ref a_mq, .long mtr, .ref a_mr, .ref a_mo, .int mos, .ref a_ml, .ref a_mt, .ref a_mf]))] H := hP
    have hD : va_D A [(a_m, .inr (7, [.int mkd, .int mrt, .int mri, .int mca, .int mpr, .int men, .ref a_mp, .ref a_me, .int p1, .int mrq, .ref a_mq, .long mtr, .ref a_mr, .ref a_mo, .int mos, .ref a_ml, .ref a_mt, .ref a_mf]))] := hD
    refine lv_aload_n hx hb dX7_list_21 rfl (lv_at hl 1 rfl) ?_
    refine lv_iconst (v := (0 : Int32)) hx hb dX7_list_22 (by decide +kernel) ?_
    refine va_put (D := (dC, dI)) (ci := 7) (v := .int (0 : Int32)) (ty := .int) (C := RX7) (T := TX7) (N := 18) hx hb hts (fun _ h => List.mem_cons_of_mem _ (List.mem_append_right _ h)) tyX7 tyX7_ok nmX7 hown hK hP hD hS 0 rfl rfl 9 (by decide) (hts (.fieldLink RX7 50 "RentOrBuyModel" "requests" "I") (List.mem_cons_of_mem _ (List.mem_append_left _ (List.mem_of_getElem? (i := 1) rfl)))) (fun _ h9 => h9) rfl (by decide +kernel) rfl rfl (Nat.le_of_ble_eq_true rfl) dX7_list_23 (fun H locs hP hD hS => ?_)
    have hP : va_P (dC, dI) vwCl [(a_m, .inr (7, [.int mkd, .int mrt, .int mri, .int mca, .int mpr, .int men, .ref a_mp, .ref a_me, .int p1, .int (0 : Int32), .ref a_mq, .long mtr, .ref a_mr, .ref a_mo, .int mos, .ref a_ml, .ref a_mt, .ref a_mf]))] H := hP
    have hD : va_D A [(a_m, .inr (7, [.int mkd, .int mrt, .int mri, .int mca, .int mpr, .int men, .ref a_mp, .ref a_me, .int p1, .int (0 : Int32), .ref a_mq, .long mtr, .ref a_mr, .ref a_mo, .int mos, .ref a_ml, .ref a_mt, .ref a_mf]))] := hD
    refine lv_iload_n hx hb dX7_list_26 rfl (lv_at hl 0 rfl) ?_
    rw [hQ]
    exact rt_i (p1, (0 : Int32)) hx hb hr hlocks h hP hD hS dX7_list_27
  · replace h := h.2 c6
    refine lv_iconst (v := (-1 : Int32)) hx hb dX7_list_9 (by decide +kernel) ?_
    rw [hQ]
    exact rt_i (mth, mrq) hx hb hr hlocks h hP hD hS dX7_list_10

/-- RentOrBuyModel.mean -/
def rmX7_mean : Room := { frames := 4, cells := 0, slots := 0, locals := 91 }
set_option maxHeartbeats 4000000 in
set_option maxRecDepth 100000 in
theorem c_X7_mean (l : Launch) (dC : Nat → ClassId) (dI : Nat → Nat → Nat) (kA : ClassId) (a_m a_mp a_me a_mq a_mr a_mo a_ml a_mt a_mf : Nat) (sz : Nat) (mkd : Int32) (mrt : Int32) (mri : Int32) (mca : Int32) (mpr : Int32) (men : Int32) (mth : Int32) (mrq : Int32) (mtr : Int64) (mos : Int32) (mpF : Nat → Int32) (p1 : Int32) (p2 : Int32) (K : Int64 → Prop) (hg : g_X7_mean mkd mrt mri mca mpr men mth mrq mtr mos mpF p1 p2 K) : Met l yX7_mean wsX7_mean rmX7_mean (va_Pc [.ref a_m, .int p1, .int p2] (prW (dC, dI) kA sz [(a_m, .inr (7, [.int mkd, .int mrt, .int mri, .int mca, .int mpr, .int men, .ref a_mp, .ref a_me, .int mth, .int mrq, .ref a_mq, .long mtr, .ref a_mr, .ref a_mo, .int mos, .ref a_ml, .ref a_mt, .ref a_mf])), (a_mp, .inl (kA, 42, .inl mpF))])) (va_Ql (fun (r : Int64) (u : Unit) => K r) (poW (dC, dI) (va_A [(a_m, .inr (7, [.int mkd, .int mrt, .int mri, .int mca, .int mpr, .int men, .ref a_mp, .ref a_me, .int mth, .int mrq, .ref a_mq, .long mtr, .ref a_mr, .ref a_mo, .int mos, .ref a_ml, .ref a_mt, .ref a_mf])), (a_mp, .inl (kA, 42, .inl mpF))] sz) (fun (u : Unit) => [(a_m, .inr (7, [.int mkd, .int mrt, .int mri, .int mca, .int mpr, .int men, .ref a_mp, .ref a_me, .int mth, .int mrq, .ref a_mq, .long mtr, .ref a_mr, .ref a_mo, .int mos, .ref a_ml, .ref a_mt, .ref a_mf])), (a_mp, .inl (kA, 42, .inl mpF))])) (va_A [(a_m, .inr (7, [.int mkd, .int mrt, .int mri, .int mca, .int mpr, .int men, .ref a_mp, .ref a_me, .int mth, .int mrq, .ref a_mq, .long mtr, .ref a_mr, .ref a_mo, .int mos, .ref a_ml, .ref a_mt, .ref a_mf])), (a_mp, .inl (kA, 42, .inl mpF))] sz)) 0 0 (va_A [(a_m, .inr (7, [.int mkd, .int mrt, .int mri, .int mca, .int mpr, .int men, .ref a_mp, .ref a_me, .int mth, .int mrq, .ref a_mq, .long mtr, .ref a_mr, .ref a_mo, .int mos, .ref a_ml, .ref a_mt, .ref a_mf])), (a_mp, .inl (kA, 42, .inl mpF))] sz) := by
  refine Met.ofW (cc := cX7_mean) (maxL := 11) (ret := (some .long)) (by decide) rfl ?_
  intro p e s m args below meth c s₁ B hml hv
  obtain ⟨hargs, hsz, hP, hK, hD0, hN⟩ := hv
  have hx := B.exec
  have hb := B.bytes
  have hr := B.returns
  have hts := atoms_spec (ws := wsX7_mean) B.pre
  have hown : s.vm.findClass RX7 = some m.cls := findClass_of_methodNamed B.named
  have hlocks := B.notSynchronized
  subst hsz
  have hD := hD0.self (sz := s.heap.size)
  generalize hAe : va_A [(a_m, .inr (7, [.int mkd, .int mrt, .int mri, .int mca, .int mpr, .int men, .ref a_mp, .ref a_me, .int mth, .int mrq, .ref a_mq, .long mtr, .ref a_mr, .ref a_mo, .int mos, .ref a_ml, .ref a_mt, .ref a_mf])), (a_mp, .inl (kA, 42, .inl mpF))] s.heap.size = A at hD ⊢
  have hA : ∀ q : Nat, s.heap.size ≤ q → A q := fun q h => by rw [← hAe]; exact Or.inr h
  have hS : va_S A s.heap s.heap [] := va_S.rf
  obtain ⟨Q, hQ⟩ : ∃ Q : State → Prop, Q = MQ below (va_Ql (fun (r : Int64) (u : Unit) => K r) (poW (dC, dI) A (fun (u : Unit) => [(a_m, .inr (7, [.int mkd, .int mrt, .int mri, .int mca, .int mpr, .int men, .ref a_mp, .ref a_me, .int mth, .int mrq, .ref a_mq, .long mtr, .ref a_mr, .ref a_mo, .int mos, .ref a_ml, .ref a_mt, .ref a_mf])), (a_mp, .inl (kA, 42, .inl mpF))])) A) args s 0 0 A := ⟨_, rfl⟩
  rw [← hQ]
  have hP : va_P (dC, dI) vwCl [(a_m, .inr (7, [.int mkd, .int mrt, .int mri, .int mca, .int mpr, .int men, .ref a_mp, .ref a_me, .int mth, .int mrq, .ref a_mq, .long mtr, .ref a_mr, .ref a_mo, .int mos, .ref a_ml, .ref a_mt, .ref a_mf])), (a_mp, .inl (kA, 42, .inl mpF))] s.heap := hP
  refine en_ok hargs (Nat.le_of_ble_eq_true rfl) (fun ls hl => ?_)
  have hl : lv_has ls 11 [(0, .ref a_m), (1, .int p1), (2, .int p2)] := hl
  have h := hg
  unfold g_X7_mean at h
  refine lv_aload_n hx hb dX7_mean_0 rfl (lv_at hl 0 rfl) ?_
  refine lv_iload_n hx hb dX7_mean_1 rfl (lv_at hl 1 rfl) ?_
  have hPc := hP.sub (ws' := [(a_m, .inr (7, [.int mkd, .int mrt, .int mri, .int mca, .int mpr, .int men, .ref a_mp, .ref a_me, .int mth, .int mrq, .ref a_mq, .long mtr, .ref a_mr, .ref a_mo, .int mos, .ref a_ml, .ref a_mt, .ref a_mf]))]) [0] rfl
  have hDc := hD.sub (ws' := [(a_m, .inr (7, [.int mkd, .int mrt, .int mri, .int mca, .int mpr, .int men, .ref a_mp, .ref a_me, .int mth, .int mrq, .ref a_mq, .long mtr, .ref a_mr, .ref a_mo, .int mos, .ref a_ml, .ref a_mt, .ref a_mf]))]) [0] (by decide) rfl
  refine fr_i (wr := [(a_mp, .inl (kA, 42, .inl mpF))]) (WN := fun (u2 : Unit) => [(a_m, .inr (7, [.int mkd, .int mrt, .int mri, .int mca, .int mpr, .int men, .ref a_mp, .ref a_me, .int mth, .int mrq, .ref a_mq, .long mtr, .ref a_mr, .ref a_mo, .int mos, .ref a_ml, .ref a_mt, .ref a_mf])), (a_mp, .inl (kA, 42, .inl mpF))]) (va_runV (As := [.int p1]) (rest := []) ⟨hx, hb, hml, hown, hts⟩ (c_X7_isEnd l dC dI kA a_m a_mp a_me a_mq a_mr a_mo a_ml a_mt a_mf s.heap.size mkd mrt mri mca mpr men mth mrq mtr mos p1 _ h) (cwV 1 hts gX7_mean_X7_isEnd rfl rfl rfl (by decide +kernel) ⟨Nat.le_of_ble_eq_true rfl, Nat.le_of_ble_eq_true rfl⟩) (prW.preV (ci := 7) (q0 := 0) hPc hDc hK hN rfl rfl) rfl rfl hl.1 rfl (lv_room (Nat.le_of_ble_eq_true rfl)) dX7_mean_2 ⟨Nat.le_of_ble_eq_true rfl, Nat.le_of_ble_eq_true rfl⟩) hP hD hS hA [0] [1] rfl rfl (by decide) (by decide) [1, 0] (by decide) (fun _ => rfl) (fun r2 u2 H locs h hP hD hS => ?_)
  have hP : va_P (dC, dI) vwCl [(a_m, .inr (7, [.int mkd, .int mrt, .int mri, .int mca, .int mpr, .int men, .ref a_mp, .ref a_me, .int mth, .int mrq, .ref a_mq, .long mtr, .ref a_mr, .ref a_mo, .int mos, .ref a_ml, .ref a_mt, .ref a_mf])), (a_mp, .inl (kA, 42, .inl mpF))] H := hP
  have hD : va_D A [(a_m, .inr (7, [.int mkd, .int mrt, .int mri, .int mca, .int mpr, .int men, .ref a_mp, .ref a_me, .int mth, .int mrq, .ref a_mq, .long mtr, .ref a_mr, .ref a_mo, .int mos, .ref a_ml, .ref a_mt, .ref a_mf])), (a_mp, .inl (kA, 42, .inl mpF))] := hD
  refine lv_if_eq (tgt := 17) hx hb dX7_mean_5 (by decide) (fun c5 => ?_) (fun c5 => ?_)
  · replace h := h.1 c5
    refine lv_ldc2 (v := (-1 : Int64)) hx hb hown (hts (.constantLong RX7 103 (-1)) (List.mem_cons_of_mem _ (List.mem_append_left _ (List.mem_of_getElem? (i := 0) rfl)))) dX7_mean_17 ?_
    rw [hQ]
    exact rt_l () hx hb hr hlocks h hP hD hS dX7_mean_20
  · replace h := h.2 c5
    refine lv_iload_n hx hb dX7_mean_8 rfl (lv_at hl 2 rfl) ?_
    refine lv_iconst (v := (0 : Int32)) hx hb dX7_mean_9 (by decide +kernel) ?_
    refine lv_iconst (v := (1 : Int32)) hx hb dX7_mean_10 (by decide +kernel) ?_
    have hPc := hP.sub (ws' := []) [] rfl
    have hDc := hD.sub (ws' := []) [] (by decide) rfl
    refine fr_i (wr := [(a_m, .inr (7, [.int mkd, .int mrt, .int mri, .int mca, .int mpr, .int men, .ref a_mp, .ref a_me, .int mth, .int mrq, .ref a_mq, .long mtr, .ref a_mr, .ref a_mo, .int mos, .ref a_ml, .ref a_mt, .ref a_mf])), (a_mp, .inl (kA, 42, .inl mpF))]) (WN := fun (u11 : Unit) => [(a_m, .inr (7, [.int mkd, .int mrt, .int mri, .int mca, .int mpr, .int men, .ref a_mp, .ref a_me, .int mth, .int mrq, .ref a_mq, .long mtr, .ref a_mr, .ref a_mo, .int mos, .ref a_ml, .ref a_mt, .ref a_mf])), (a_mp, .inl (kA, 42, .inl mpF))]) (va_runS (As := [.int p2, .int (0 : Int32), .int (1 : Int32)]) (rest := []) ⟨hx, hb, hml, hown, hts⟩ (c_X7_in l dC dI kA H.size p2 (0 : Int32) (1 : Int32) _ h) (va_cwS 3 hts gX7_mean_X7_in rfl rfl rfl (by decide +kernel) ⟨Nat.le_of_ble_eq_true rfl, Nat.le_of_ble_eq_true rfl⟩) (prW.preS hPc hDc hK hN) rfl rfl hl.1 rfl (lv_room (Nat.le_of_ble_eq_true rfl)) dX7_mean_11 ⟨Nat.le_of_ble_eq_true rfl, Nat.le_of_ble_eq_true rfl⟩) hP hD hS hA [] [0, 1] rfl rfl (by decide) (by decide) [0, 1] (by decide) (fun _ => rfl) (fun r11 u11 H locs h hP hD hS => ?_)
    have hP : va_P (dC, dI) vwCl [(a_m, .inr (7, [.int mkd, .int mrt, .int mri, .int mca, .int mpr, .int men, .ref a_mp, .ref a_me, .int mth, .int mrq, .ref a_mq, .long mtr, .ref a_mr, .ref a_mo, .int mos, .ref a_ml, .ref a_mt, .ref a_mf])), (a_mp, .inl (kA, 42, .inl mpF))] H := hP
    have hD : va_D A [(a_m, .inr (7, [.int mkd, .int mrt, .int mri, .int mca, .int mpr, .int men, .ref a_mp, .ref a_me, .int mth, .int mrq, .ref a_mq, .long mtr, .ref a_mr, .ref a_mo, .int mos, .ref a_ml, .ref a_mt, .ref a_mf])), (a_mp, .inl (kA, 42, .inl mpF))] := hD
    refine lv_if_ne (tgt := 21) hx hb dX7_mean_14 (by decide) (fun c14 => ?_) (fun c14 => ?_)
    · replace h := h.1 c14
      refine lv_aload_n hx hb dX7_mean_21 rfl (lv_at hl 0 rfl) ?_
      have hPc := hP.sub (ws' := [(a_m, .inr (7, [.int mkd, .int mrt, .int mri, .int mca, .int mpr, .int men, .ref a_mp, .ref a_me, .int mth, .int mrq, .ref a_mq, .long mtr, .ref a_mr, .ref a_mo, .int mos, .ref a_ml, .ref a_mt, .ref a_mf])), (a_mp, .inl (kA, 42, .inl mpF))]) [0, 1] rfl
      have hDc := hD.sub (ws' := [(a_m, .inr (7, [.int mkd, .int mrt, .int mri, .int mca, .int mpr, .int men, .ref a_mp, .ref a_me, .int mth, .int mrq, .ref a_mq, .long mtr, .ref a_mr, .ref a_mo, .int mos, .ref a_ml, .ref a_mt, .ref a_mf])), (a_mp, .inl (kA, 42, .inl mpF))]) [0, 1] (by decide) rfl
      refine fr_l (wr := []) (WN := fun (u22 : Unit) => [(a_m, .inr (7, [.int mkd, .int mrt, .int mri, .int mca, .int mpr, .int men, .ref a_mp, .ref a_me, .int mth, .int mrq, .ref a_mq, .long mtr, .ref a_mr, .ref a_mo, .int mos, .ref a_ml, .ref a_mt, .ref a_mf])), (a_mp, .inl (kA, 42, .inl mpF))]) (va_runV (As := []) (rest := []) ⟨hx, hb, hml, hown, hts⟩ (c_X7_planShares l dC dI kA a_m a_mp a_me a_mq a_mr a_mo a_ml a_mt a_mf H.size mkd mrt mri mca mpr men mth mrq mtr mos mpF _ h) (cwV 0 hts gX7_mean_X7_planShares rfl rfl rfl (by decide +kernel) ⟨Nat.le_of_ble_eq_true rfl, Nat.le_of_ble_eq_true rfl⟩) (prW.preV (ci := 7) (q0 := 0) hPc hDc hK hN rfl rfl) rfl rfl hl.1 rfl (lv_room (Nat.le_of_ble_eq_true rfl)) dX7_mean_22 ⟨Nat.le_of_ble_eq_true rfl, Nat.le_of_ble_eq_true rfl⟩) hP hD hS hA [0, 1] [] rfl rfl (by decide) (by decide) [0, 1] (by decide) (fun _ => rfl) (fun r22 u22 H locs h hP hD hS => ?_)
      have hP : va_P (dC, dI) vwCl [(a_m, .inr (7, [.int mkd, .int mrt, .int mri, .int mca, .int mpr, .int men, .ref a_mp, .ref a_me, .int mth, .int mrq, .ref a_mq, .long mtr, .ref a_mr, .ref a_mo, .int mos, .ref a_ml, .ref a_mt, .ref a_mf])), (a_mp, .inl (kA, 42, .inl mpF))] H := hP
      have hD : va_D A [(a_m, .inr (7, [.int mkd, .int mrt, .int mri, .int mca, .int mpr, .int men, .ref a_mp, .ref a_me, .int mth, .int mrq, .ref a_mq, .long mtr, .ref a_mr, .ref a_mo, .int mos, .ref a_ml, .ref a_mt, .ref a_mf])), (a_mp, .inl (kA, 42, .inl mpF))] := hD
      refine lv_lstore_n (lv' := [(3, .long r22), (0, .ref a_m), (1, .int p1), (2, .int p2)]) hx hb dX7_mean_25 rfl hl (by decide) rfl (fun ls hl => ?_)
      refine lv_lload_n hx hb dX7_mean_26 rfl (lv_at hl 0 rfl) ?_
      refine lv_lconst (v := (0 : Int64)) hx hb dX7_mean_27 (by decide +kernel) ?_
      refine W.lcmp hx hb dX7_mean_28 ?_
      refine lv_if_ne (tgt := 36) hx hb dX7_mean_29 (by decide) (fun c29 => ?_) (fun c29 => ?_)
      · replace h := h.1 c29
        refine lv_aload_n hx hb dX7_mean_36 rfl (lv_at hl 1 rfl) ?_
        refine lv_iload_n hx hb dX7_mean_37 rfl (lv_at hl 2 rfl) ?_
        have hPc := hP.sub (ws' := [(a_m, .inr (7, [.int mkd, .int mrt, .int mri, .int mca, .int mpr, .int men, .ref a_mp, .ref a_me, .int mth, .int mrq, .ref a_mq, .long mtr, .ref a_mr, .ref a_mo, .int mos, .ref a_ml, .ref a_mt, .ref a_mf])), (a_mp, .inl (kA, 42, .inl mpF))]) [0, 1] rfl
        have hDc := hD.sub (ws' := [(a_m, .inr (7, [.int mkd, .int mrt, .int mri, .int mca, .int mpr, .int men, .ref a_mp, .ref a_me, .int mth, .int mrq, .ref a_mq, .long mtr, .ref a_mr, .ref a_mo, .int mos, .ref a_ml, .ref a_mt, .ref a_mf])), (a_mp, .inl (kA, 42, .inl mpF))]) [0, 1] (by decide) rfl
        refine fr_l (wr := []) (WN := fun (u38 : Unit) => [(a_m, .inr (7, [.int mkd, .int mrt, .int mri, .int mca, .int mpr, .int men, .ref a_mp, .ref a_me, .int mth, .int mrq, .ref a_mq, .long mtr, .ref a_mr, .ref a_mo, .int mos, .ref a_ml, .ref a_mt, .ref a_mf])), (a_mp, .inl (kA, 42, .inl mpF))]) (va_runV (As := [.int p1]) (rest := []) ⟨hx, hb, hml, hown, hts⟩ (c_X7_weighed l dC dI kA a_m a_mp a_me a_mq a_mr a_mo a_ml a_mt a_mf H.size mkd mrt mri mca mpr men mth mrq mtr mos mpF p1 _ h) (cwV 1 hts gX7_mean_X7_weighed rfl rfl rfl (by decide +kernel) ⟨Nat.le_of_ble_eq_true rfl, Nat.le_of_ble_eq_true rfl⟩) (prW.preV (ci := 7) (q0 := 0) hPc hDc hK hN rfl rfl) rfl rfl hl.1 rfl (lv_room (Nat.le_of_ble_eq_true rfl)) dX7_mean_38 ⟨Nat.le_of_ble_eq_true rfl, Nat.le_of_ble_eq_true rfl⟩) hP hD hS hA [0, 1] [] rfl rfl (by decide) (by decide) [0, 1] (by decide) (fun _ => rfl) (fun r38 u38 H locs h hP hD hS => ?_)
        have hP : va_P (dC, dI) vwCl [(a_m, .inr (7, [.int mkd, .int mrt, .int mri, .int mca, .int mpr, .int men, .ref a_mp, .ref a_me, .int mth, .int mrq, .ref a_mq, .long mtr, .ref a_mr, .ref a_mo, .int mos, .ref a_ml, .ref a_mt, .ref a_mf])), (a_mp, .inl (kA, 42, .inl mpF))] H := hP
        have hD : va_D A [(a_m, .inr (7, [.int mkd, .int mrt, .int mri, .int mca, .int mpr, .int men, .ref a_mp, .ref a_me, .int mth, .int mrq, .ref a_mq, .long mtr, .ref a_mr, .ref a_mo, .int mos, .ref a_ml, .ref a_mt, .ref a_mf])), (a_mp, .inl (kA, 42, .inl mpF))] := hD
        refine lv_lstore (lv' := [(5, .long r38), (3, .long r22), (0, .ref a_m), (1, .int p1), (2, .int p2)]) hx hb dX7_mean_41 hl (by decide) rfl (fun ls hl => ?_)
        refine lv_lload_n hx hb dX7_mean_43 rfl (lv_at hl 1 rfl) ?_
        refine lv_aload_n hx hb dX7_mean_44 rfl (lv_at hl 2 rfl) ?_
        refine lv_iload_n hx hb dX7_mean_45 rfl (lv_at hl 3 rfl) ?_
        have hPc := hP.sub (ws' := [(a_m, .inr (7, [.int mkd, .int mrt, .int mri, .int mca, .int mpr, .int men, .ref a_mp, .ref a_me, .int mth, .int mrq, .ref a_mq, .long mtr, .ref a_mr, .ref a_mo, .int mos, .ref a_ml, .ref a_mt, .ref a_mf]))]) [0] rfl
        have hDc := hD.sub (ws' := [(a_m, .inr (7, [.int mkd, .int mrt, .int mri, .int mca, .int mpr, .int men, .ref a_mp, .ref a_me, .int mth, .int mrq, .ref a_mq, .long mtr, .ref a_mr, .ref a_mo, .int mos, .ref a_ml, .ref a_mt, .ref a_mf]))]) [0] (by decide) rfl
        refine fr_i (wr := [(a_mp, .inl (kA, 42, .inl mpF))]) (WN := fun (u46 : Unit) => [(a_m, .inr (7, [.int mkd, .int mrt, .int mri, .int mca, .int mpr, .int men, .ref a_mp, .ref a_me, .int mth, .int mrq, .ref a_mq, .long mtr, .ref a_mr, .ref a_mo, .int mos, .ref a_ml, .ref a_mt, .ref a_mf])), (a_mp, .inl (kA, 42, .inl mpF))]) (va_runV (As := [.int p1]) (rest := [.long r22]) ⟨hx, hb, hml, hown, hts⟩ (c_X7_knownBy l dC dI kA a_m a_mp a_me a_mq a_mr a_mo a_ml a_mt a_mf H.size mkd mrt mri mca mpr men mth mrq mtr mos p1 _ h) (cwV 1 hts gX7_mean_X7_knownBy rfl rfl rfl (by decide +kernel) ⟨Nat.le_of_ble_eq_true rfl, Nat.le_of_ble_eq_true rfl⟩) (prW.preV (ci := 7) (q0 := 0) hPc hDc hK hN rfl rfl) rfl rfl hl.1 rfl (lv_room (Nat.le_of_ble_eq_true rfl)) dX7_mean_46 ⟨Nat.le_of_ble_eq_true rfl, Nat.le_of_ble_eq_true rfl⟩) hP hD hS hA [0] [1] rfl rfl (by decide) (by decide) [1, 0] (by decide) (fun _ => rfl) (fun r46 u46 H locs h hP hD hS => ?_)
        have hP : va_P (dC, dI) vwCl [(a_m, .inr (7, [.int mkd, .int mrt, .int mri, .int mca, .int mpr, .int men, .ref a_mp, .ref a_me, .int mth, .int mrq, .ref a_mq, .long mtr, .ref a_mr, .ref a_mo, .int mos, .ref a_ml, .ref a_mt, .ref a_mf])), (a_mp, .inl (kA, 42, .inl mpF))] H := hP
        have hD : va_D A [(a_m, .inr (7, [.int mkd, .int mrt, .int mri, .int mca, .int mpr, .int men, .ref a_mp, .ref a_me, .int mth, .int mrq, .ref a_mq, .long mtr, .ref a_mr, .ref a_mo, .int mos, .ref a_ml, .ref a_mt, .ref a_mf])), (a_mp, .inl (kA, 42, .inl mpF))] := hD
        refine lv_i2l hx hb dX7_mean_49 rfl ?_
        refine lv_lmul hx hb dX7_mean_50 ?_
        refine lv_lstore (lv' := [(7, .long (r22 * r46.toInt64)), (5, .long r38), (3, .long r22), (0, .ref a_m), (1, .int p1), (2, .int p2)]) hx hb dX7_mean_51 hl (by decide) rfl (fun ls hl => ?_)
        refine lv_lload hx hb dX7_mean_53 (lv_at hl 1 rfl) ?_
        refine lv_lload hx hb dX7_mean_55 (lv_at hl 0 rfl) ?_
        have hPc := hP.sub (ws' := []) [] rfl
        have hDc := hD.sub (ws' := []) [] (by decide) rfl
        refine fr_l (wr := [(a_m, .inr (7, [.int mkd, .int mrt, .int mri, .int mca, .int mpr, .int men, .ref a_mp, .ref a_me, .int mth, .int mrq, .ref a_mq, .long mtr, .ref a_mr, .ref a_mo, .int mos, .ref a_ml, .ref a_mt, .ref a_mf])), (a_mp, .inl (kA, 42, .inl mpF))]) (WN := fun (u57 : Unit) => [(a_m, .inr (7, [.int mkd, .int mrt, .int mri, .int mca, .int mpr, .int men, .ref a_mp, .ref a_me, .int mth, .int mrq, .ref a_mq, .long mtr, .ref a_mr, .ref a_mo, .int mos, .ref a_ml, .ref a_mt, .ref a_mf])), (a_mp, .inl (kA, 42, .inl mpF))]) (va_runS (As := [.long r38, .long (r22 * r46.toInt64)]) (rest := []) ⟨hx, hb, hml, hown, hts⟩ (c_X7_common l dC dI kA H.size r38 (r22 * r46.toInt64) _ h) (va_cwS 2 hts gX7_mean_X7_common rfl rfl rfl (by decide +kernel) ⟨Nat.le_of_ble_eq_true rfl, Nat.le_of_ble_eq_true rfl⟩) (prW.preS hPc hDc hK hN) rfl rfl hl.1 rfl (lv_room (Nat.le_of_ble_eq_true rfl)) dX7_mean_57 ⟨Nat.le_of_ble_eq_true rfl, Nat.le_of_ble_eq_true rfl⟩) hP hD hS hA [] [0, 1] rfl rfl (by decide) (by decide) [0, 1] (by decide) (fun _ => rfl) (fun r57 u57 H locs h hP hD hS => ?_)
        have hP : va_P (dC, dI) vwCl [(a_m, .inr (7, [.int mkd, .int mrt, .int mri, .int mca, .int mpr, .int men, .ref a_mp, .ref a_me, .int mth, .int mrq, .ref a_mq, .long mtr, .ref a_mr, .ref a_mo, .int mos, .ref a_ml, .ref a_mt, .ref a_mf])), (a_mp, .inl (kA, 42, .inl mpF))] H := hP
        have hD : va_D A [(a_m, .inr (7, [.int mkd, .int mrt, .int mri, .int mca, .int mpr, .int men, .ref a_mp, .ref a_me, .int mth, .int mrq, .ref a_mq, .long mtr, .ref a_mr, .ref a_mo, .int mos, .ref a_ml, .ref a_mt, .ref a_mf])), (a_mp, .inl (kA, 42, .inl mpF))] := hD
        refine lv_lstore (lv' := [(9, .long r57), (7, .long (r22 * r46.toInt64)), (5, .long r38), (3, .long r22), (0, .ref a_m), (1, .int p1), (2, .int p2)]) hx hb dX7_mean_60 hl (by decide) rfl (fun ls hl => ?_)
        refine lv_iload_n hx hb dX7_mean_62 rfl (lv_at hl 6 rfl) ?_
        refine lv_if_ne (tgt := 74) hx hb dX7_mean_63 (by decide) (fun c63 => ?_) (fun c63 => ?_)
        · replace h := h.1 c63
          refine lv_lload hx hb dX7_mean_74 (lv_at hl 1 rfl) ?_
          refine lv_lload hx hb dX7_mean_76 (lv_at hl 0 rfl) ?_
          obtain ⟨hz78, h⟩ := h
          refine lv_ldiv hx hb dX7_mean_78 hz78 ?_
          rw [hQ]
          exact rt_l () hx hb hr hlocks h hP hD hS dX7_mean_79
        · replace h := h.2 c63
          refine lv_lload hx hb dX7_mean_66 (lv_at hl 2 rfl) ?_
          refine lv_lload hx hb dX7_mean_68 (lv_at hl 0 rfl) ?_
          obtain ⟨hz70, h⟩ := h
          refine lv_ldiv hx hb dX7_mean_70 hz70 ?_
          refine lv_goto (tgt := 79) hx hb dX7_mean_71 (by decide) ?_
          rw [hQ]
          exact rt_l () hx hb hr hlocks h hP hD hS dX7_mean_79
      · replace h := h.2 c29
        refine lv_ldc2 (v := (-2 : Int64)) hx hb hown (hts (.constantLong RX7 109 (-2)) (List.mem_cons_of_mem _ (List.mem_append_left _ (List.mem_of_getElem? (i := 1) rfl)))) dX7_mean_32 ?_
        rw [hQ]
        exact rt_l () hx hb hr hlocks h hP hD hS dX7_mean_35
    · replace h := h.2 c14
      refine lv_ldc2 (v := (-1 : Int64)) hx hb hown (hts (.constantLong RX7 103 (-1)) (List.mem_cons_of_mem _ (List.mem_append_left _ (List.mem_of_getElem? (i := 0) rfl)))) dX7_mean_17 ?_
      rw [hQ]
      exact rt_l () hx hb hr hlocks h hP hD hS dX7_mean_20

/-- RentOrBuyModel.offer -/
def rmX7_offer : Room := { frames := 3, cells := 0, slots := 0, locals := 67 }
set_option maxHeartbeats 4000000 in
set_option maxRecDepth 100000 in
theorem c_X7_offer (l : Launch) (dC : Nat → ClassId) (dI : Nat → Nat → Nat) (kA : ClassId) (a_m a_mp a_me a_mq a_mr a_mo a_ml a_mt a_mf : Nat) (sz : Nat) (mkd : Int32) (mrt : Int32) (mri : Int32) (mca : Int32) (mpr : Int32) (men : Int32) (mth : Int32) (mrq : Int32) (mtr : Int64) (mos : Int32) (p1 : Int32) (p2 : Int32) (p3 : Int32) (p4 : Int32) (p5 : Int32) (K : Int32 → Int32 → Int32 → Int32 → Int32 → Int32 → Prop) (hg : g_X7_offer mkd mrt mri mca mpr men mth mrq mtr mos p1 p2 p3 p4 p5 K) : Met l yX7_offer wsX7_offer rmX7_offer (va_Pc [.ref a_m, .int p1, .int p2, .int p3, .int p4, .int p5] (prW (dC, dI) kA sz [(a_m, .inr (7, [.int mkd, .int mrt, .int mri, .int mca, .int mpr, .int men, .ref a_mp, .ref a_me, .int mth, .int mrq, .ref a_mq, .long mtr, .ref a_mr, .ref a_mo, .int mos, .ref a_ml, .ref a_mt, .ref a_mf]))])) (va_Qi (fun (r : Int32) (u : Int32 × Int32 × Int32 × Int32 × Int32) => K r u.1 u.2.1 u.2.2.1 u.2.2.2.1 u.2.2.2.2) (poW (dC, dI) (va_A [(a_m, .inr (7, [.int mkd, .int mrt, .int mri, .int mca, .int mpr, .int men, .ref a_mp, .ref a_me, .int mth, .int mrq, .ref a_mq, .long mtr, .ref a_mr, .ref a_mo, .int mos, .ref a_ml, .ref a_mt, .ref a_mf]))] sz) (fun (u : Int32 × Int32 × Int32 × Int32 × Int32) => [(a_m, .inr (7, [.int u.1, .int u.2.1, .int u.2.2.1, .int u.2.2.2.1, .int u.2.2.2.2, .int men, .ref a_mp, .ref a_me, .int mth, .int mrq, .ref a_mq, .long mtr, .ref a_mr, .ref a_mo, .int mos, .ref a_ml, .ref a_mt, .ref a_mf]))])) (va_A [(a_m, .inr (7, [.int mkd, .int mrt, .int mri, .int mca, .int mpr, .int men, .ref a_mp, .ref a_me, .int mth, .int mrq, .ref a_mq, .long mtr, .ref a_mr, .ref a_mo, .int mos, .ref a_ml, .ref a_mt, .ref a_mf]))] sz)) 0 0 (va_A [(a_m, .inr (7, [.int mkd, .int mrt, .int mri, .int mca, .int mpr, .int men, .ref a_mp, .ref a_me, .int mth, .int mrq, .ref a_mq, .long mtr, .ref a_mr, .ref a_mo, .int mos, .ref a_ml, .ref a_mt, .ref a_mf]))] sz) := by
  refine Met.ofW (cc := cX7_offer) (maxL := 6) (ret := (some .int)) (by decide) rfl ?_
  intro p e s m args below meth c s₁ B hml hv
  obtain ⟨hargs, hsz, hP, hK, hD0, hN⟩ := hv
  have hx := B.exec
  have hb := B.bytes
  have hr := B.returns
  have hts := atoms_spec (ws := wsX7_offer) B.pre
  have hown : s.vm.findClass RX7 = some m.cls := findClass_of_methodNamed B.named
  have hlocks := B.notSynchronized
  subst hsz
  have hD := hD0.self (sz := s.heap.size)
  generalize hAe : va_A [(a_m, .inr (7, [.int mkd, .int mrt, .int mri, .int mca, .int mpr, .int men, .ref a_mp, .ref a_me, .int mth, .int mrq, .ref a_mq, .long mtr, .ref a_mr, .ref a_mo, .int mos, .ref a_ml, .ref a_mt, .ref a_mf]))] s.heap.size = A at hD ⊢
  have hA : ∀ q : Nat, s.heap.size ≤ q → A q := fun q h => by rw [← hAe]; exact Or.inr h
  have hS : va_S A s.heap s.heap [] := va_S.rf
  obtain ⟨Q, hQ⟩ : ∃ Q : State → Prop, Q = MQ below (va_Qi (fun (r : Int32) (u : Int32 × Int32 × Int32 × Int32 × Int32) => K r u.1 u.2.1 u.2.2.1 u.2.2.2.1 u.2.2.2.2) (poW (dC, dI) A (fun (u : Int32 × Int32 × Int32 × Int32 × Int32) => [(a_m, .inr (7, [.int u.1, .int u.2.1, .int u.2.2.1, .int u.2.2.2.1, .int u.2.2.2.2, .int men, .ref a_mp, .ref a_me, .int mth, .int mrq, .ref a_mq, .long mtr, .ref a_mr, .ref a_mo, .int mos, .ref a_ml, .ref a_mt, .ref a_mf]))])) A) args s 0 0 A := ⟨_, rfl⟩
  rw [← hQ]
  have hP : va_P (dC, dI) vwCl [(a_m, .inr (7, [.int mkd, .int mrt, .int mri, .int mca, .int mpr, .int men, .ref a_mp, .ref a_me, .int mth, .int mrq, .ref a_mq, .long mtr, .ref a_mr, .ref a_mo, .int mos, .ref a_ml, .ref a_mt, .ref a_mf]))] s.heap := hP
  refine en_ok hargs (Nat.le_of_ble_eq_true rfl) (fun ls hl => ?_)
  have hl : lv_has ls 6 [(0, .ref a_m), (1, .int p1), (2, .int p2), (3, .int p3), (4, .int p4), (5, .int p5)] := hl
  have h := hg
  unfold g_X7_offer at h
  refine lv_iload_n hx hb dX7_offer_0 rfl (lv_at hl 1 rfl) ?_
  refine lv_iconst (v := (0 : Int32)) hx hb dX7_offer_1 (by decide +kernel) ?_
  refine lv_iconst (v := (2 : Int32)) hx hb dX7_offer_2 (by decide +kernel) ?_
  have hPc := hP.sub (ws' := []) [] rfl
  have hDc := hD.sub (ws' := []) [] (by decide) rfl
  refine fr_i (wr := [(a_m, .inr (7, [.int mkd, .int mrt, .int mri, .int mca, .int mpr, .int men, .ref a_mp, .ref a_me, .int mth, .int mrq, .ref a_mq, .long mtr, .ref a_mr, .ref a_mo, .int mos, .ref a_ml, .ref a_mt, .ref a_mf]))]) (WN := fun (u3 : Unit) => [(a_m, .inr (7, [.int mkd, .int mrt, .int mri, .int mca, .int mpr, .int men, .ref a_mp, .ref a_me, .int mth, .int mrq, .ref a_mq, .long mtr, .ref a_mr, .ref a_mo, .int mos, .ref a_ml, .ref a_mt, .ref a_mf]))]) (va_runS (As := [.int p1, .int (0 : Int32), .int (2 : Int32)]) (rest := []) ⟨hx, hb, hml, hown, hts⟩ (c_X7_in l dC dI kA s.heap.size p1 (0 : Int32) (2 : Int32) _ h) (va_cwS 3 hts gX7_offer_X7_in rfl rfl rfl (by decide +kernel) ⟨Nat.le_of_ble_eq_true rfl, Nat.le_of_ble_eq_true rfl⟩) (prW.preS hPc hDc hK hN) rfl rfl hl.1 rfl (lv_room (Nat.le_of_ble_eq_true rfl)) dX7_offer_3 ⟨Nat.le_of_ble_eq_true rfl, Nat.le_of_ble_eq_true rfl⟩) hP hD hS hA [] [0] rfl rfl (by decide) (by decide) [0] (by decide) (fun _ => rfl) (fun r3 u3 H locs h hP hD hS => ?_)
  have hP : va_P (dC, dI) vwCl [(a_m, .inr (7, [.int mkd, .int mrt, .int mri, .int mca, .int mpr, .int men, .ref a_mp, .ref a_me, .int mth, .int mrq, .ref a_mq, .long mtr, .ref a_mr, .ref a_mo, .int mos, .ref a_ml, .ref a_mt, .ref a_mf]))] H := hP
  have hD : va_D A [(a_m, .inr (7, [.int mkd, .int mrt, .int mri, .int mca, .int mpr, .int men, .ref a_mp, .ref a_me, .int mth, .int mrq, .ref a_mq, .long mtr, .ref a_mr, .ref a_mo, .int mos, .ref a_ml, .ref a_mt, .ref a_mf]))] := hD
  refine lv_if_eq (tgt := 62) hx hb dX7_offer_6 (by decide) (fun c6 => ?_) (fun c6 => ?_)
  · replace h := h.1 c6
    refine lv_iconst (v := (-1 : Int32)) hx hb dX7_offer_62 (by decide +kernel) ?_
    rw [hQ]
    exact rt_i (mkd, mrt, mri, mca, mpr) hx hb hr hlocks h hP hD hS dX7_offer_63
  · replace h := h.2 c6
    refine lv_iload_n hx hb dX7_offer_9 rfl (lv_at hl 2 rfl) ?_
    refine lv_iconst (v := (1 : Int32)) hx hb dX7_offer_10 (by decide +kernel) ?_
    refine lv_bipush (v := (50 : Int32)) hx hb dX7_offer_11 (by decide +kernel) ?_
    have hPc := hP.sub (ws' := []) [] rfl
    have hDc := hD.sub (ws' := []) [] (by decide) rfl
    refine fr_i (wr := [(a_m, .inr (7, [.int mkd, .int mrt, .int mri, .int mca, .int mpr, .int men, .ref a_mp, .ref a_me, .int mth, .int mrq, .ref a_mq, .long mtr, .ref a_mr, .ref a_mo, .int mos, .ref a_ml, .ref a_mt, .ref a_mf]))]) (WN := fun (u13 : Unit) => [(a_m, .inr (7, [.int mkd, .int mrt, .int mri, .int mca, .int mpr, .int men, .ref a_mp, .ref a_me, .int mth, .int mrq, .ref a_mq, .long mtr, .ref a_mr, .ref a_mo, .int mos, .ref a_ml, .ref a_mt, .ref a_mf]))]) (va_runS (As := [.int p2, .int (1 : Int32), .int (50 : Int32)]) (rest := []) ⟨hx, hb, hml, hown, hts⟩ (c_X7_in l dC dI kA H.size p2 (1 : Int32) (50 : Int32) _ h) (va_cwS 3 hts gX7_offer_X7_in rfl rfl rfl (by decide +kernel) ⟨Nat.le_of_ble_eq_true rfl, Nat.le_of_ble_eq_true rfl⟩) (prW.preS hPc hDc hK hN) rfl rfl hl.1 rfl (lv_room (Nat.le_of_ble_eq_true rfl)) dX7_offer_13 ⟨Nat.le_of_ble_eq_true rfl, Nat.le_of_ble_eq_true rfl⟩) hP hD hS hA [] [0] rfl rfl (by decide) (by decide) [0] (by decide) (fun _ => rfl) (fun r13 u13 H locs h hP hD hS => ?_)
    have hP : va_P (dC, dI) vwCl [(a_m, .inr (7, [.int mkd, .int mrt, .int mri, .int mca, .int mpr, .int men, .ref a_mp, .ref a_me, .int mth, .int mrq, .ref a_mq, .long mtr, .ref a_mr, .ref a_mo, .int mos, .ref a_ml, .ref a_mt, .ref a_mf]))] H := hP
    have hD : va_D A [(a_m, .inr (7, [.int mkd, .int mrt, .int mri, .int mca, .int mpr, .int men, .ref a_mp, .ref a_me, .int mth, .int mrq, .ref a_mq, .long mtr, .ref a_mr, .ref a_mo, .int mos, .ref a_ml, .ref a_mt, .ref a_mf]))] := hD
    refine lv_if_eq (tgt := 62) hx hb dX7_offer_16 (by decide) (fun c16 => ?_) (fun c16 => ?_)
    · replace h := h.1 c16
      refine lv_iconst (v := (-1 : Int32)) hx hb dX7_offer_62 (by decide +kernel) ?_
      rw [hQ]
      exact rt_i (mkd, mrt, mri, mca, mpr) hx hb hr hlocks h hP hD hS dX7_offer_63
    · replace h := h.2 c16
      refine lv_iload_n hx hb dX7_offer_19 rfl (lv_at hl 1 rfl) ?_
      obtain ⟨J33, hR33, h⟩ := h
      have hJ33 : J33 → ∀ (H : Heap) (locs : List Loc) (ls : Array Slot), va_P (dC, dI) vwCl [(a_m, .inr (7, [.int mkd, .int mrt, .int mri, .int mca, .int mpr, .int men, .ref a_mp, .ref a_me, .int mth, .int mrq, .ref a_mq, .long mtr, .ref a_mr, .ref a_mo, .int mos, .ref a_ml, .ref a_mt, .ref a_mf]))] H → va_D A [(a_m, .inr (7, [.int mkd, .int mrt, .int mri, .int mca, .int mpr, .int men, .ref a_mp, .ref a_me, .int mth, .int mrq, .ref a_mq, .long mtr, .ref a_mr, .ref a_mo, .int mos, .ref a_ml, .ref a_mt, .ref a_mf]))] → va_S A s.heap H locs → lv_has ls 6 [(0, .ref a_m), (1, .int p1), (2, .int p2), (3, .int p3), (4, .int p4), (5, .int p5)] → W p l e (headSpec wsX7_offer rmX7_offer).room s m args below meth c H locs 0 0 Q (F0 m 33 ls []) := by
        intro  h H locs ls hP hD hS hl
        replace h := hR33  h
        refine lv_iload_n hx hb dX7_offer_33 rfl (lv_at hl 1 rfl) ?_
        refine lv_iconst (v := (2 : Int32)) hx hb dX7_offer_34 (by decide +kernel) ?_
        obtain ⟨J50, hR50, h⟩ := h
        have hJ50 : J50 → ∀ (H : Heap) (locs : List Loc) (ls : Array Slot), va_P (dC, dI) vwCl [(a_m, .inr (7, [.int mkd, .int mrt, .int mri, .int mca, .int mpr, .int men, .ref a_mp, .ref a_me, .int mth, .int mrq, .ref a_mq, .long mtr, .ref a_mr, .ref a_mo, .int mos, .ref a_ml, .ref a_mt, .ref a_mf]))] H → va_D A [(a_m, .inr (7, [.int mkd, .int mrt, .int mri, .int mca, .int mpr, .int men, .ref a_mp, .ref a_me, .int mth, .int mrq, .ref a_mq, .long mtr, .ref a_mr, .ref a_mo, .int mos, .ref a_ml, .ref a_mt, .ref a_mf]))] → va_S A s.heap H locs → lv_has ls 6 [(0, .ref a_m), (1, .int p1), (2, .int p2), (3, .int p3), (4, .int p4), (5, .int p5)] → W p l e (headSpec wsX7_offer rmX7_offer).room s m args below meth c H locs 0 0 Q (F0 m 50 ls []) := by
          intro  h H locs ls hP hD hS hl
          replace h := hR50  h
          refine lv_iload hx hb dX7_offer_50 (lv_at hl 5 rfl) ?_
          refine lv_iconst (v := (1 : Int32)) hx hb dX7_offer_52 (by decide +kernel) ?_
          refine lv_sipush (v := (500 : Int32)) hx hb dX7_offer_53 (by decide +kernel) ?_
          have hPc := hP.sub (ws' := []) [] rfl
          have hDc := hD.sub (ws' := []) [] (by decide) rfl
          refine fr_i (wr := [(a_m, .inr (7, [.int mkd, .int mrt, .int mri, .int mca, .int mpr, .int men, .ref a_mp, .ref a_me, .int mth, .int mrq, .ref a_mq, .long mtr, .ref a_mr, .ref a_mo, .int mos, .ref a_ml, .ref a_mt, .ref a_mf]))]) (WN := fun (u56 : Unit) => [(a_m, .inr (7, [.int mkd, .int mrt, .int mri, .int mca, .int mpr, .int men, .ref a_mp, .ref a_me, .int mth, .int mrq, .ref a_mq, .long mtr, .ref a_mr, .ref a_mo, .int mos, .ref a_ml, .ref a_mt, .ref a_mf]))]) (va_runS (As := [.int p5, .int (1 : Int32), .int (500 : Int32)]) (rest := []) ⟨hx, hb, hml, hown, hts⟩ (c_X7_in l dC dI kA H.size p5 (1 : Int32) (500 : Int32) _ h) (va_cwS 3 hts gX7_offer_X7_in rfl rfl rfl (by decide +kernel) ⟨Nat.le_of_ble_eq_true rfl, Nat.le_of_ble_eq_true rfl⟩) (prW.preS hPc hDc hK hN) rfl rfl hl.1 rfl (lv_room (Nat.le_of_ble_eq_true rfl)) dX7_offer_56 ⟨Nat.le_of_ble_eq_true rfl, Nat.le_of_ble_eq_true rfl⟩) hP hD hS hA [] [0] rfl rfl (by decide) (by decide) [0] (by decide) (fun _ => rfl) (fun r56 u56 H locs h hP hD hS => ?_)
          have hP : va_P (dC, dI) vwCl [(a_m, .inr (7, [.int mkd, .int mrt, .int mri, .int mca, .int mpr, .int men, .ref a_mp, .ref a_me, .int mth, .int mrq, .ref a_mq, .long mtr, .ref a_mr, .ref a_mo, .int mos, .ref a_ml, .ref a_mt, .ref a_mf]))] H := hP
          have hD : va_D A [(a_m, .inr (7, [.int mkd, .int mrt, .int mri, .int mca, .int mpr, .int men, .ref a_mp, .ref a_me, .int mth, .int mrq, .ref a_mq, .long mtr, .ref a_mr, .ref a_mo, .int mos, .ref a_ml, .ref a_mt, .ref a_mf]))] := hD
          refine lv_if_ne (tgt := 64) hx hb dX7_offer_59 (by decide) (fun c59 => ?_) (fun c59 => ?_)
          · replace h := h.1 c59
            refine lv_aload_n hx hb dX7_offer_64 rfl (lv_at hl 0 rfl) ?_
            refine lv_iload_n hx hb dX7_offer_65 rfl (lv_at hl 1 rfl) ?_
            refine va_put (D := (dC, dI)) (ci := 7) (v := .int p1) (ty := .int) (C := RX7) (T := TX7) (N := 18) hx hb hts (fun _ h => List.mem_cons_of_mem _ (List.mem_append_right _ h)) tyX7 tyX7_ok nmX7 hown hK hP hD hS 0 rfl rfl 0 (by decide) (hts (.fieldLink RX7 53 "RentOrBuyModel" "kind" "I") (List.mem_cons_of_mem _ (List.mem_append_left _ (List.mem_of_getElem? (i := 0) rfl)))) (fun _ h9 => h9) rfl (by decide +kernel) rfl rfl (Nat.le_of_ble_eq_true rfl) dX7_offer_66 (fun H locs hP hD hS => ?_)
            have hP : va_P (dC, dI) vwCl [(a_m, .inr (7, [.int p1, .int mrt, .int mri, .int mca, .int mpr, .int men, .ref a_mp, .ref a_me, .int mth, .int mrq, .ref a_mq, .long mtr, .ref a_mr, .ref a_mo, .int mos, .ref a_ml, .ref a_mt, .ref a_mf]))] H := hP
            have hD : va_D A [(a_m, .inr (7, [.int p1, .int mrt, .int mri, .int mca, .int mpr, .int men, .ref a_mp, .ref a_me, .int mth, .int mrq, .ref a_mq, .long mtr, .ref a_mr, .ref a_mo, .int mos, .ref a_ml, .ref a_mt, .ref a_mf]))] := hD
            refine lv_aload_n hx hb dX7_offer_69 rfl (lv_at hl 0 rfl) ?_
            refine lv_iload_n hx hb dX7_offer_70 rfl (lv_at hl 2 rfl) ?_
            refine va_put (D := (dC, dI)) (ci := 7) (v := .int p2) (ty := .int) (C := RX7) (T := TX7) (N := 18) hx hb hts (fun _ h => List.mem_cons_of_mem _ (List.mem_append_right _ h)) tyX7 tyX7_ok nmX7 hown hK hP hD hS 0 rfl rfl 1 (by decide) (hts (.fieldLink RX7 7 "RentOrBuyModel" "rent" "I") (List.mem_cons_of_mem _ (List.mem_append_left _ (List.mem_of_getElem? (i := 1) rfl)))) (fun _ h9 => h9) rfl (by decide +kernel) rfl rfl (Nat.le_of_ble_eq_true rfl) dX7_offer_71 (fun H locs hP hD hS => ?_)
            have hP : va_P (dC, dI) vwCl [(a_m, .inr (7, [.int p1, .int p2, .int mri, .int mca, .int mpr, .int men, .ref a_mp, .ref a_me, .int mth, .int mrq, .ref a_mq, .long mtr, .ref a_mr, .ref a_mo, .int mos, .ref a_ml, .ref a_mt, .ref a_mf]))] H := hP
            have hD : va_D A [(a_m, .inr (7, [.int p1, .int p2, .int mri, .int mca, .int mpr, .int men, .ref a_mp, .ref a_me, .int mth, .int mrq, .ref a_mq, .long mtr, .ref a_mr, .ref a_mo, .int mos, .ref a_ml, .ref a_mt, .ref a_mf]))] := hD
            refine lv_aload_n hx hb dX7_offer_74 rfl (lv_at hl 0 rfl) ?_
            refine lv_iload_n hx hb dX7_offer_75 rfl (lv_at hl 3 rfl) ?_
            refine va_put (D := (dC, dI)) (ci := 7) (v := .int p3) (ty := .int) (C := RX7) (T := TX7) (N := 18) hx hb hts (fun _ h => List.mem_cons_of_mem _ (List.mem_append_right _ h)) tyX7 tyX7_ok nmX7 hown hK hP hD hS 0 rfl rfl 2 (by decide) (hts (.fieldLink RX7 56 "RentOrBuyModel" "rise" "I") (List.mem_cons_of_mem _ (List.mem_append_left _ (List.mem_of_getElem? (i := 2) rfl)))) (fun _ h9 => h9) rfl (by decide +kernel) rfl rfl (Nat.le_of_ble_eq_true rfl) dX7_offer_76 (fun H locs hP hD hS => ?_)
            have hP : va_P (dC, dI) vwCl [(a_m, .inr (7, [.int p1, .int p2, .int p3, .int mca, .int mpr, .int men, .ref a_mp, .ref a_me, .int mth, .int mrq, .ref a_mq, .long mtr, .ref a_mr, .ref a_mo, .int mos, .ref a_ml, .ref a_mt, .ref a_mf]))] H := hP
            have hD : va_D A [(a_m, .inr (7, [.int p1, .int p2, .int p3, .int mca, .int mpr, .int men, .ref a_mp, .ref a_me, .int mth, .int mrq, .ref a_mq, .long mtr, .ref a_mr, .ref a_mo, .int mos, .ref a_ml, .ref a_mt, .ref a_mf]))] := hD
            refine lv_aload_n hx hb dX7_offer_79 rfl (lv_at hl 0 rfl) ?_
            refine lv_iload hx hb dX7_offer_80 (lv_at hl 4 rfl) ?_
            refine va_put (D := (dC, dI)) (ci := 7) (v := .int p4) (ty := .int) (C := RX7) (T := TX7) (N := 18) hx hb hts (fun _ h => List.mem_cons_of_mem _ (List.mem_append_right _ h)) tyX7 tyX7_ok nmX7 hown hK hP hD hS 0 rfl rfl 3 (by decide) (hts (.fieldLink RX7 13 "RentOrBuyModel" "cap" "I") (List.mem_cons_of_mem _ (List.mem_append_left _ (List.mem_of_getElem? (i := 3) rfl)))) (fun _ h9 => h9) rfl (by decide +kernel) rfl rfl (Nat.le_of_ble_eq_true rfl) dX7_offer_82 (fun H locs hP hD hS => ?_)
            have hP : va_P (dC, dI) vwCl [(a_m, .inr (7, [.int p1, .int p2, .int p3, .int p4, .int mpr, .int men, .ref a_mp, .ref a_me, .int mth, .int mrq, .ref a_mq, .long mtr, .ref a_mr, .ref a_mo, .int mos, .ref a_ml, .ref a_mt, .ref a_mf]))] H := hP
            have hD : va_D A [(a_m, .inr (7, [.int p1, .int p2, .int p3, .int p4, .int mpr, .int men, .ref a_mp, .ref a_me, .int mth, .int mrq, .ref a_mq, .long mtr, .ref a_mr, .ref a_mo, .int mos, .ref a_ml, .ref a_mt, .ref a_mf]))] := hD
            refine lv_aload_n hx hb dX7_offer_85 rfl (lv_at hl 0 rfl) ?_
            refine lv_iload hx hb dX7_offer_86 (lv_at hl 5 rfl) ?_
            refine va_put (D := (dC, dI)) (ci := 7) (v := .int p5) (ty := .int) (C := RX7) (T := TX7) (N := 18) hx hb hts (fun _ h => List.mem_cons_of_mem _ (List.mem_append_right _ h)) tyX7 tyX7_ok nmX7 hown hK hP hD hS 0 rfl rfl 4 (by decide) (hts (.fieldLink RX7 16 "RentOrBuyModel" "price" "I") (List.mem_cons_of_mem _ (List.mem_append_left _ (List.mem_of_getElem? (i := 4) rfl)))) (fun _ h9 => h9) rfl (by decide +kernel) rfl rfl (Nat.le_of_ble_eq_true rfl) dX7_offer_88 (fun H locs hP hD hS => ?_)
            have hP : va_P (dC, dI) vwCl [(a_m, .inr (7, [.int p1, .int p2, .int p3, .int p4, .int p5, .int men, .ref a_mp, .ref a_me, .int mth, .int mrq, .ref a_mq, .long mtr, .ref a_mr, .ref a_mo, .int mos, .ref a_ml, .ref a_mt, .ref a_mf]))] H := hP
            have hD : va_D A [(a_m, .inr (7, [.int p1, .int p2, .int p3, .int p4, .int p5, .int men, .ref a_mp, .ref a_me, .int mth, .int mrq, .ref a_mq, .long mtr, .ref a_mr, .ref a_mo, .int mos, .ref a_ml, .ref a_mt, .ref a_mf]))] := hD
            refine lv_aload_n hx hb dX7_offer_91 rfl (lv_at hl 0 rfl) ?_
            refine lv_aload_n hx hb dX7_offer_92 rfl (lv_at hl 0 rfl) ?_
            refine va_get (D := (dC, dI)) (ci := 7) (v := .int men) (C := RX7) (T := TX7) (N := 18) hx hb hts (fun _ h => List.mem_cons_of_mem _ (List.mem_append_right _ h)) hown hK hP 0 rfl rfl 5 (by decide) (hts (.fieldLink RX7 19 "RentOrBuyModel" "ends" "I") (List.mem_cons_of_mem _ (List.mem_append_left _ (List.mem_of_getElem? (i := 5) rfl)))) (fun _ h9 => h9) rfl dX7_offer_93 ?_
            have hPc := hP.sub (ws' := [(a_m, .inr (7, [.int p1, .int p2, .int p3, .int p4, .int p5, .int men, .ref a_mp, .ref a_me, .int mth, .int mrq, .ref a_mq, .long mtr, .ref a_mr, .ref a_mo, .int mos, .ref a_ml, .ref a_mt, .ref a_mf]))]) [0] rfl
            have hDc := hD.sub (ws' := [(a_m, .inr (7, [.int p1, .int p2, .int p3, .int p4, .int p5, .int men, .ref a_mp, .ref a_me, .int mth, .int mrq, .ref a_mq, .long mtr, .ref a_mr, .ref a_mo, .int mos, .ref a_ml, .ref a_mt, .ref a_mf]))]) [0] (by decide) rfl
            refine fr_i (wr := []) (WN := fun (u96 : Unit) => [(a_m, .inr (7, [.int p1, .int p2, .int p3, .int p4, .int p5, .int men, .ref a_mp, .ref a_me, .int mth, .int mrq, .ref a_mq, .long mtr, .ref a_mr, .ref a_mo, .int mos, .ref a_ml, .ref a_mt, .ref a_mf]))]) (va_runV (As := [.int men]) (rest := []) ⟨hx, hb, hml, hown, hts⟩ (c_X7_knownBy l dC dI kA a_m a_mp a_me a_mq a_mr a_mo a_ml a_mt a_mf H.size p1 p2 p3 p4 p5 men mth mrq mtr mos men _ h) (cwV 1 hts gX7_offer_X7_knownBy rfl rfl rfl (by decide +kernel) ⟨Nat.le_of_ble_eq_true rfl, Nat.le_of_ble_eq_true rfl⟩) (prW.preV (ci := 7) (q0 := 0) hPc hDc hK hN rfl rfl) rfl rfl hl.1 rfl (lv_room (Nat.le_of_ble_eq_true rfl)) dX7_offer_96 ⟨Nat.le_of_ble_eq_true rfl, Nat.le_of_ble_eq_true rfl⟩) hP hD hS hA [0] [] rfl rfl (by decide) (by decide) [0] (by decide) (fun _ => rfl) (fun r96 u96 H locs h hP hD hS => ?_)
            have hP : va_P (dC, dI) vwCl [(a_m, .inr (7, [.int p1, .int p2, .int p3, .int p4, .int p5, .int men, .ref a_mp, .ref a_me, .int mth, .int mrq, .ref a_mq, .long mtr, .ref a_mr, .ref a_mo, .int mos, .ref a_ml, .ref a_mt, .ref a_mf]))] H := hP
            have hD : va_D A [(a_m, .inr (7, [.int p1, .int p2, .int p3, .int p4, .int p5, .int men, .ref a_mp, .ref a_me, .int mth, .int mrq, .ref a_mq, .long mtr, .ref a_mr, .ref a_mo, .int mos, .ref a_ml, .ref a_mt, .ref a_mf]))] := hD
            rw [hQ]
            exact rt_i (p1, p2, p3, p4, p5) hx hb hr hlocks h hP hD hS dX7_offer_99
          · replace h := h.2 c59
            refine lv_iconst (v := (-1 : Int32)) hx hb dX7_offer_62 (by decide +kernel) ?_
            rw [hQ]
            exact rt_i (mkd, mrt, mri, mca, mpr) hx hb hr hlocks h hP hD hS dX7_offer_63
        refine lv_icmp_ne (tgt := 50) hx hb dX7_offer_35 (by decide) (fun c35 => ?_) (fun c35 => ?_)
        · replace h := h.1 c35
          exact hJ50 h _ _ _ hP hD hS (lv_sub hl [0, 1, 2, 3, 4, 5] rfl)
        · replace h := h.2 c35
          refine lv_iload hx hb dX7_offer_38 (lv_at hl 4 rfl) ?_
          refine lv_iconst (v := (1 : Int32)) hx hb dX7_offer_40 (by decide +kernel) ?_
          refine lv_sipush (v := (200 : Int32)) hx hb dX7_offer_41 (by decide +kernel) ?_
          have hPc := hP.sub (ws' := []) [] rfl
          have hDc := hD.sub (ws' := []) [] (by decide) rfl
          refine fr_i (wr := [(a_m, .inr (7, [.int mkd, .int mrt, .int mri, .int mca, .int mpr, .int men, .ref a_mp, .ref a_me, .int mth, .int mrq, .ref a_mq, .long mtr, .ref a_mr, .ref a_mo, .int mos, .ref a_ml, .ref a_mt, .ref a_mf]))]) (WN := fun (u44 : Unit) => [(a_m, .inr (7, [.int mkd, .int mrt, .int mri, .int mca, .int mpr, .int men, .ref a_mp, .ref a_me, .int mth, .int mrq, .ref a_mq, .long mtr, .ref a_mr, .ref a_mo, .int mos, .ref a_ml, .ref a_mt, .ref a_mf]))]) (va_runS (As := [.int p4, .int (1 : Int32), .int (200 : Int32)]) (rest := []) ⟨hx, hb, hml, hown, hts⟩ (c_X7_in l dC dI kA H.size p4 (1 : Int32) (200 : Int32) _ h) (va_cwS 3 hts gX7_offer_X7_in rfl rfl rfl (by decide +kernel) ⟨Nat.le_of_ble_eq_true rfl, Nat.le_of_ble_eq_true rfl⟩) (prW.preS hPc hDc hK hN) rfl rfl hl.1 rfl (lv_room (Nat.le_of_ble_eq_true rfl)) dX7_offer_44 ⟨Nat.le_of_ble_eq_true rfl, Nat.le_of_ble_eq_true rfl⟩) hP hD hS hA [] [0] rfl rfl (by decide) (by decide) [0] (by decide) (fun _ => rfl) (fun r44 u44 H locs h hP hD hS => ?_)
          have hP : va_P (dC, dI) vwCl [(a_m, .inr (7, [.int mkd, .int mrt, .int mri, .int mca, .int mpr, .int men, .ref a_mp, .ref a_me, .int mth, .int mrq, .ref a_mq, .long mtr, .ref a_mr, .ref a_mo, .int mos, .ref a_ml, .ref a_mt, .ref a_mf]))] H := hP
          have hD : va_D A [(a_m, .inr (7, [.int mkd, .int mrt, .int mri, .int mca, .int mpr, .int men, .ref a_mp, .ref a_me, .int mth, .int mrq, .ref a_mq, .long mtr, .ref a_mr, .ref a_mo, .int mos, .ref a_ml, .ref a_mt, .ref a_mf]))] := hD
          refine lv_if_eq (tgt := 62) hx hb dX7_offer_47 (by decide) (fun c47 => ?_) (fun c47 => ?_)
          · replace h := h.1 c47
            refine lv_iconst (v := (-1 : Int32)) hx hb dX7_offer_62 (by decide +kernel) ?_
            rw [hQ]
            exact rt_i (mkd, mrt, mri, mca, mpr) hx hb hr hlocks h hP hD hS dX7_offer_63
          · replace h := h.2 c47
            exact hJ50 h _ _ _ hP hD hS (lv_sub hl [0, 1, 2, 3, 4, 5] rfl)
      refine lv_if_le (tgt := 33) hx hb dX7_offer_20 (by decide) (fun c20 => ?_) (fun c20 => ?_)
      · replace h := h.1 c20
        exact hJ33 h _ _ _ hP hD hS (lv_sub hl [0, 1, 2, 3, 4, 5] rfl)
      · replace h := h.2 c20
        refine lv_iload_n hx hb dX7_offer_23 rfl (lv_at hl 3 rfl) ?_
        refine lv_iconst (v := (0 : Int32)) hx hb dX7_offer_24 (by decide +kernel) ?_
        refine lv_bipush (v := (20 : Int32)) hx hb dX7_offer_25 (by decide +kernel) ?_
        have hPc := hP.sub (ws' := []) [] rfl
        have hDc := hD.sub (ws' := []) [] (by decide) rfl
        refine fr_i (wr := [(a_m, .inr (7, [.int mkd, .int mrt, .int mri, .int mca, .int mpr, .int men, .ref a_mp, .ref a_me, .int mth, .int mrq, .ref a_mq, .long mtr, .ref a_mr, .ref a_mo, .int mos, .ref a_ml, .ref a_mt, .ref a_mf]))]) (WN := fun (u27 : Unit) => [(a_m, .inr (7, [.int mkd, .int mrt, .int mri, .int mca, .int mpr, .int men, .ref a_mp, .ref a_me, .int mth, .int mrq, .ref a_mq, .long mtr, .ref a_mr, .ref a_mo, .int mos, .ref a_ml, .ref a_mt, .ref a_mf]))]) (va_runS (As := [.int p3, .int (0 : Int32), .int (20 : Int32)]) (rest := []) ⟨hx, hb, hml, hown, hts⟩ (c_X7_in l dC dI kA H.size p3 (0 : Int32) (20 : Int32) _ h) (va_cwS 3 hts gX7_offer_X7_in rfl rfl rfl (by decide +kernel) ⟨Nat.le_of_ble_eq_true rfl, Nat.le_of_ble_eq_true rfl⟩) (prW.preS hPc hDc hK hN) rfl rfl hl.1 rfl (lv_room (Nat.le_of_ble_eq_true rfl)) dX7_offer_27 ⟨Nat.le_of_ble_eq_true rfl, Nat.le_of_ble_eq_true rfl⟩) hP hD hS hA [] [0] rfl rfl (by decide) (by decide) [0] (by decide) (fun _ => rfl) (fun r27 u27 H locs h hP hD hS => ?_)
        have hP : va_P (dC, dI) vwCl [(a_m, .inr (7, [.int mkd, .int mrt, .int mri, .int mca, .int mpr, .int men, .ref a_mp, .ref a_me, .int mth, .int mrq, .ref a_mq, .long mtr, .ref a_mr, .ref a_mo, .int mos, .ref a_ml, .ref a_mt, .ref a_mf]))] H := hP
        have hD : va_D A [(a_m, .inr (7, [.int mkd, .int mrt, .int mri, .int mca, .int mpr, .int men, .ref a_mp, .ref a_me, .int mth, .int mrq, .ref a_mq, .long mtr, .ref a_mr, .ref a_mo, .int mos, .ref a_ml, .ref a_mt, .ref a_mf]))] := hD
        refine lv_if_eq (tgt := 62) hx hb dX7_offer_30 (by decide) (fun c30 => ?_) (fun c30 => ?_)
        · replace h := h.1 c30
          refine lv_iconst (v := (-1 : Int32)) hx hb dX7_offer_62 (by decide +kernel) ?_
          rw [hQ]
          exact rt_i (mkd, mrt, mri, mca, mpr) hx hb hr hlocks h hP hD hS dX7_offer_63
        · replace h := h.2 c30
          exact hJ33 h _ _ _ hP hD hS (lv_sub hl [0, 1, 2, 3, 4, 5] rfl)

/-- RentOrBuyModel.ordersOf -/
def rmX7_ordersOf : Room := { frames := 0, cells := 0, slots := 0, locals := 0 }
set_option maxHeartbeats 4000000 in
set_option maxRecDepth 100000 in
theorem c_X7_ordersOf (l : Launch) (dC : Nat → ClassId) (dI : Nat → Nat → Nat) (kA : ClassId) (a_m a_mo a_mp a_me a_mq a_mr a_ml a_mt a_mf : Nat) (sz : Nat) (mkd : Int32) (mrt : Int32) (mri : Int32) (mca : Int32) (mpr : Int32) (men : Int32) (mth : Int32) (mrq : Int32) (mtr : Int64) (mos : Int32) (moF : Nat → Int32) (K : Int32 → (Nat → Int32) → Prop) (hg : g_X7_ordersOf mkd mrt mri mca mpr men mth mrq mtr mos moF K) : Met l yX7_ordersOf wsX7_ordersOf rmX7_ordersOf (va_Pc [.ref a_m] (prW (dC, dI) kA sz [(a_m, .inr (7, [.int mkd, .int mrt, .int mri, .int mca, .int mpr, .int men, .ref a_mp, .ref a_me, .int mth, .int mrq, .ref a_mq, .long mtr, .ref a_mr, .ref a_mo, .int mos, .ref a_ml, .ref a_mt, .ref a_mf])), (a_mo, .inl (kA, 96, .inl moF))])) (va_Qv (fun (u : Int32 × (Nat → Int32)) => K u.1 u.2) (poW (dC, dI) (va_A [(a_m, .inr (7, [.int mkd, .int mrt, .int mri, .int mca, .int mpr, .int men, .ref a_mp, .ref a_me, .int mth, .int mrq, .ref a_mq, .long mtr, .ref a_mr, .ref a_mo, .int mos, .ref a_ml, .ref a_mt, .ref a_mf])), (a_mo, .inl (kA, 96, .inl moF))] sz) (fun (u : Int32 × (Nat → Int32)) => [(a_m, .inr (7, [.int mkd, .int mrt, .int mri, .int mca, .int mpr, .int men, .ref a_mp, .ref a_me, .int mth, .int mrq, .ref a_mq, .long mtr, .ref a_mr, .ref a_mo, .int u.1, .ref a_ml, .ref a_mt, .ref a_mf])), (a_mo, .inl (kA, 96, .inl u.2))])) (va_A [(a_m, .inr (7, [.int mkd, .int mrt, .int mri, .int mca, .int mpr, .int men, .ref a_mp, .ref a_me, .int mth, .int mrq, .ref a_mq, .long mtr, .ref a_mr, .ref a_mo, .int mos, .ref a_ml, .ref a_mt, .ref a_mf])), (a_mo, .inl (kA, 96, .inl moF))] sz)) 0 0 (va_A [(a_m, .inr (7, [.int mkd, .int mrt, .int mri, .int mca, .int mpr, .int men, .ref a_mp, .ref a_me, .int mth, .int mrq, .ref a_mq, .long mtr, .ref a_mr, .ref a_mo, .int mos, .ref a_ml, .ref a_mt, .ref a_mf])), (a_mo, .inl (kA, 96, .inl moF))] sz) := by
  refine Met.ofW (cc := cX7_ordersOf) (maxL := 6) (ret := none) (by decide) rfl ?_
  intro p e s m args below meth c s₁ B hml hv
  obtain ⟨hargs, hsz, hP, hK, hD0, hN⟩ := hv
  have hx := B.exec
  have hb := B.bytes
  have hr := B.returns
  have hts := atoms_spec (ws := wsX7_ordersOf) B.pre
  have hown : s.vm.findClass RX7 = some m.cls := findClass_of_methodNamed B.named
  have hlocks := B.notSynchronized
  subst hsz
  have hD := hD0.self (sz := s.heap.size)
  generalize hAe : va_A [(a_m, .inr (7, [.int mkd, .int mrt, .int mri, .int mca, .int mpr, .int men, .ref a_mp, .ref a_me, .int mth, .int mrq, .ref a_mq, .long mtr, .ref a_mr, .ref a_mo, .int mos, .ref a_ml, .ref a_mt, .ref a_mf])), (a_mo, .inl (kA, 96, .inl moF))] s.heap.size = A at hD ⊢
  have hA : ∀ q : Nat, s.heap.size ≤ q → A q := fun q h => by rw [← hAe]; exact Or.inr h
  have hS : va_S A s.heap s.heap [] := va_S.rf
  obtain ⟨Q, hQ⟩ : ∃ Q : State → Prop, Q = MQ below (va_Qv (fun (u : Int32 × (Nat → Int32)) => K u.1 u.2) (poW (dC, dI) A (fun (u : Int32 × (Nat → Int32)) => [(a_m, .inr (7, [.int mkd, .int mrt, .int mri, .int mca, .int mpr, .int men, .ref a_mp, .ref a_me, .int mth, .int mrq, .ref a_mq, .long mtr, .ref a_mr, .ref a_mo, .int u.1, .ref a_ml, .ref a_mt, .ref a_mf])), (a_mo, .inl (kA, 96, .inl u.2))])) A) args s 0 0 A := ⟨_, rfl⟩
  rw [← hQ]
  have hP : va_P (dC, dI) vwCl [(a_m, .inr (7, [.int mkd, .int mrt, .int mri, .int mca, .int mpr, .int men, .ref a_mp, .ref a_me, .int mth, .int mrq, .ref a_mq, .long mtr, .ref a_mr, .ref a_mo, .int mos, .ref a_ml, .ref a_mt, .ref a_mf])), (a_mo, .inl (kA, 96, .inl moF))] s.heap := hP
  refine en_ok hargs (Nat.le_of_ble_eq_true rfl) (fun ls hl => ?_)
  have hl : lv_has ls 6 [(0, .ref a_m)] := hl
  have h := hg
  unfold g_X7_ordersOf at h
  refine lv_aload_n hx hb dX7_ordersOf_0 rfl (lv_at hl 0 rfl) ?_
  refine lv_iconst (v := (0 : Int32)) hx hb dX7_ordersOf_1 (by decide +kernel) ?_
  refine va_put (D := (dC, dI)) (ci := 7) (v := .int (0 : Int32)) (ty := .int) (C := RX7) (T := TX7) (N := 18) hx hb hts (fun _ h => List.mem_cons_of_mem _ (List.mem_append_right _ h)) tyX7 tyX7_ok nmX7 hown hK hP hD hS 0 rfl rfl 14 (by decide) (hts (.fieldLink RX7 135 "RentOrBuyModel" "orders" "I") (List.mem_cons_of_mem _ (List.mem_append_left _ (List.mem_of_getElem? (i := 0) rfl)))) (fun _ h9 => h9) rfl (by decide +kernel) rfl rfl (Nat.le_of_ble_eq_true rfl) dX7_ordersOf_2 (fun H locs hP hD hS => ?_)
  have hP : va_P (dC, dI) vwCl [(a_m, .inr (7, [.int mkd, .int mrt, .int mri, .int mca, .int mpr, .int men, .ref a_mp, .ref a_me, .int mth, .int mrq, .ref a_mq, .long mtr, .ref a_mr, .ref a_mo, .int (0 : Int32), .ref a_ml, .ref a_mt, .ref a_mf])), (a_mo, .inl (kA, 96, .inl moF))] H := hP
  have hD : va_D A [(a_m, .inr (7, [.int mkd, .int mrt, .int mri, .int mca, .int mpr, .int men, .ref a_mp, .ref a_me, .int mth, .int mrq, .ref a_mq, .long mtr, .ref a_mr, .ref a_mo, .int (0 : Int32), .ref a_ml, .ref a_mt, .ref a_mf])), (a_mo, .inl (kA, 96, .inl moF))] := hD
  refine lv_iconst (v := (0 : Int32)) hx hb dX7_ordersOf_5 (by decide +kernel) ?_
  refine lv_istore_n (lv' := [(1, .int (0 : Int32)), (0, .ref a_m)]) hx hb dX7_ordersOf_6 rfl hl (by decide) rfl (fun ls hl => ?_)
  obtain ⟨J7, ⟨n7, h⟩, hz7, hs7⟩ := h
  have hL7 : ∀ (n7 : Nat) (v1_7 : Int32) (mos_7 : Int32) (moF_7 : Nat → Int32), J7 n7 v1_7 mos_7 moF_7 → ∀ (H : Heap) (locs : List Loc) (ls : Array Slot), va_P (dC, dI) vwCl [(a_m, .inr (7, [.int mkd, .int mrt, .int mri, .int mca, .int mpr, .int men, .ref a_mp, .ref a_me, .int mth, .int mrq, .ref a_mq, .long mtr, .ref a_mr, .ref a_mo, .int mos_7, .ref a_ml, .ref a_mt, .ref a_mf])), (a_mo, .inl (kA, 96, .inl moF_7))] H → va_D A [(a_m, .inr (7, [.int mkd, .int mrt, .int mri, .int mca, .int mpr, .int men, .ref a_mp, .ref a_me, .int mth, .int mrq, .ref a_mq, .long mtr, .ref a_mr, .ref a_mo, .int mos_7, .ref a_ml, .ref a_mt, .ref a_mf])), (a_mo, .inl (kA, 96, .inl moF_7))] → va_S A s.heap H locs → lv_has ls 6 [(0, .ref a_m), (1, .int v1_7)] → W p l e (headSpec wsX7_ordersOf rmX7_ordersOf).room s m args below meth c H locs 0 0 Q (F0 m 7 ls []) := by
    intro n7
    induction n7 with
    | zero => intro v1_7 mos_7 moF_7 h; exact absurd h (hz7 v1_7 mos_7 moF_7)
    | succ n7 ih7 =>
      intro v1_7 mos_7 moF_7 h H locs ls hP hD hS hl
      replace h := hs7 n7 v1_7 mos_7 moF_7 h
      refine lv_iload_n hx hb dX7_ordersOf_7 rfl (lv_at hl 1 rfl) ?_
      refine lv_sipush (v := (256 : Int32)) hx hb dX7_ordersOf_8 (by decide +kernel) ?_
      refine lv_icmp_ge (tgt := 164) hx hb dX7_ordersOf_11 (by decide) (fun c11 => ?_) (fun c11 => ?_)
      · replace h := h.1 c11
        rw [hQ]
        exact rt_v (mos_7, moF_7) hx hb hr hlocks h hP hD hS dX7_ordersOf_164
      · replace h := h.2 c11
        refine lv_iconst (v := (0 : Int32)) hx hb dX7_ordersOf_14 (by decide +kernel) ?_
        refine lv_istore_n (lv' := [(2, .int (0 : Int32)), (0, .ref a_m), (1, .int v1_7)]) hx hb dX7_ordersOf_15 rfl hl (by decide) rfl (fun ls hl => ?_)
        refine lv_iload_n hx hb dX7_ordersOf_16 rfl (lv_at hl 2 rfl) ?_
        refine lv_iconst (v := (2 : Int32)) hx hb dX7_ordersOf_17 (by decide +kernel) ?_
        refine lv_aload_n hx hb dX7_ordersOf_18 rfl (lv_at hl 1 rfl) ?_
        refine va_get (D := (dC, dI)) (ci := 7) (v := .int mth) (C := RX7) (T := TX7) (N := 18) hx hb hts (fun _ h => List.mem_cons_of_mem _ (List.mem_append_right _ h)) hown hK hP 0 rfl rfl 8 (by decide) (hts (.fieldLink RX7 29 "RentOrBuyModel" "things" "I") (List.mem_cons_of_mem _ (List.mem_append_left _ (List.mem_of_getElem? (i := 1) rfl)))) (fun _ h9 => h9) rfl dX7_ordersOf_19 ?_
        refine lv_imul hx hb dX7_ordersOf_22 ?_
        refine lv_ishr hx hb dX7_ordersOf_23 ?_
        obtain ⟨J32, hR32, h⟩ := h
        have hJ32 : ∀ (t0_32 : Int32), J32 t0_32 → ∀ (H : Heap) (locs : List Loc) (ls : Array Slot), va_P (dC, dI) vwCl [(a_m, .inr (7, [.int mkd, .int mrt, .int mri, .int mca, .int mpr, .int men, .ref a_mp, .ref a_me, .int mth, .int mrq, .ref a_mq, .long mtr, .ref a_mr, .ref a_mo, .int mos_7, .ref a_ml, .ref a_mt, .ref a_mf])), (a_mo, .inl (kA, 96, .inl moF_7))] H → va_D A [(a_m, .inr (7, [.int mkd, .int mrt, .int mri, .int mca, .int mpr, .int men, .ref a_mp, .ref a_me, .int mth, .int mrq, .ref a_mq, .long mtr, .ref a_mr, .ref a_mo, .int mos_7, .ref a_ml, .ref a_mt, .ref a_mf])), (a_mo, .inl (kA, 96, .inl moF_7))] → va_S A s.heap H locs → lv_has ls 6 [(0, .ref a_m), (1, .int v1_7), (2, .int (0 : Int32))] → W p l e (headSpec wsX7_ordersOf rmX7_ordersOf).room s m args below meth c H locs 0 0 Q (F0 m 32 ls [.int t0_32]) := by
          intro t0_32 h H locs ls hP hD hS hl
          replace h := hR32 t0_32 h
          refine lv_istore_n (lv' := [(3, .int t0_32), (0, .ref a_m), (1, .int v1_7), (2, .int (0 : Int32))]) hx hb dX7_ordersOf_32 rfl hl (by decide) rfl (fun ls hl => ?_)
          refine lv_iconst (v := (0 : Int32)) hx hb dX7_ordersOf_33 (by decide +kernel) ?_
          refine lv_istore (lv' := [(4, .int (0 : Int32)), (3, .int t0_32), (0, .ref a_m), (1, .int v1_7), (2, .int (0 : Int32))]) hx hb dX7_ordersOf_34 hl (by decide) rfl (fun ls hl => ?_)
          obtain ⟨J36, ⟨n36, h⟩, hz36, hs36⟩ := h
          have hL36 : ∀ (n36 : Nat) (v2_36 : Int32) (v3_36 : Int32) (v4_36 : Int32), J36 n36 v2_36 v3_36 v4_36 → ∀ (H : Heap) (locs : List Loc) (ls : Array Slot), va_P (dC, dI) vwCl [(a_m, .inr (7, [.int mkd, .int mrt, .int mri, .int mca, .int mpr, .int men, .ref a_mp, .ref a_me, .int mth, .int mrq, .ref a_mq, .long mtr, .ref a_mr, .ref a_mo, .int mos_7, .ref a_ml, .ref a_mt, .ref a_mf])), (a_mo, .inl (kA, 96, .inl moF_7))] H → va_D A [(a_m, .inr (7, [.int mkd, .int mrt, .int mri, .int mca, .int mpr, .int men, .ref a_mp, .ref a_me, .int mth, .int mrq, .ref a_mq, .long mtr, .ref a_mr, .ref a_mo, .int mos_7, .ref a_ml, .ref a_mt, .ref a_mf])), (a_mo, .inl (kA, 96, .inl moF_7))] → va_S A s.heap H locs → lv_has ls 6 [(0, .ref a_m), (1, .int v1_7), (2, .int v2_36), (3, .int v3_36), (4, .int v4_36)] → W p l e (headSpec wsX7_ordersOf rmX7_ordersOf).room s m args below meth c H locs 0 0 Q (F0 m 36 ls []) := by
            intro n36
            induction n36 with
            | zero => intro v2_36 v3_36 v4_36 h; exact absurd h (hz36 v2_36 v3_36 v4_36)
            | succ n36 ih36 =>
              intro v2_36 v3_36 v4_36 h H locs ls hP hD hS hl
              replace h := hs36 n36 v2_36 v3_36 v4_36 h
              refine lv_iload hx hb dX7_ordersOf_36 (lv_at hl 4 rfl) ?_
              refine lv_aload_n hx hb dX7_ordersOf_38 rfl (lv_at hl 0 rfl) ?_
              refine va_get (D := (dC, dI)) (ci := 7) (v := .int mth) (C := RX7) (T := TX7) (N := 18) hx hb hts (fun _ h => List.mem_cons_of_mem _ (List.mem_append_right _ h)) hown hK hP 0 rfl rfl 8 (by decide) (hts (.fieldLink RX7 29 "RentOrBuyModel" "things" "I") (List.mem_cons_of_mem _ (List.mem_append_left _ (List.mem_of_getElem? (i := 1) rfl)))) (fun _ h9 => h9) rfl dX7_ordersOf_39 ?_
              refine lv_icmp_ge (tgt := 96) hx hb dX7_ordersOf_42 (by decide) (fun c42 => ?_) (fun c42 => ?_)
              · replace h := h.1 c42
                refine lv_iconst (v := (0 : Int32)) hx hb dX7_ordersOf_96 (by decide +kernel) ?_
                refine lv_istore (lv' := [(4, .int (0 : Int32)), (0, .ref a_m), (1, .int v1_7), (2, .int v2_36), (3, .int v3_36)]) hx hb dX7_ordersOf_97 hl (by decide) rfl (fun ls hl => ?_)
                obtain ⟨J99, ⟨n99, h⟩, hz99, hs99⟩ := h
                have hL99 : ∀ (n99 : Nat) (v4_99 : Int32) (moF_99 : Nat → Int32), J99 n99 v4_99 moF_99 → ∀ (H : Heap) (locs : List Loc) (ls : Array Slot), va_P (dC, dI) vwCl [(a_m, .inr (7, [.int mkd, .int mrt, .int mri, .int mca, .int mpr, .int men, .ref a_mp, .ref a_me, .int mth, .int mrq, .ref a_mq, .long mtr, .ref a_mr, .ref a_mo, .int mos_7, .ref a_ml, .ref a_mt, .ref a_mf])), (a_mo, .inl (kA, 96, .inl moF_99))] H → va_D A [(a_m, .inr (7, [.int mkd, .int mrt, .int mri, .int mca, .int mpr, .int men, .ref a_mp, .ref a_me, .int mth, .int mrq, .ref a_mq, .long mtr, .ref a_mr, .ref a_mo, .int mos_7, .ref a_ml, .ref a_mt, .ref a_mf])), (a_mo, .inl (kA, 96, .inl moF_99))] → va_S A s.heap H locs → lv_has ls 6 [(0, .ref a_m), (1, .int v1_7), (3, .int v3_36), (4, .int v4_99)] → W p l e (headSpec wsX7_ordersOf rmX7_ordersOf).room s m args below meth c H locs 0 0 Q (F0 m 99 ls []) := by
                  intro n99
                  induction n99 with
                  | zero => intro v4_99 moF_99 h; exact absurd h (hz99 v4_99 moF_99)
                  | succ n99 ih99 =>
                    intro v4_99 moF_99 h H locs ls hP hD hS hl
                    replace h := hs99 n99 v4_99 moF_99 h
                    refine lv_iload hx hb dX7_ordersOf_99 (lv_at hl 3 rfl) ?_
                    refine lv_aload_n hx hb dX7_ordersOf_101 rfl (lv_at hl 0 rfl) ?_
                    refine va_get (D := (dC, dI)) (ci := 7) (v := .int mth) (C := RX7) (T := TX7) (N := 18) hx hb hts (fun _ h => List.mem_cons_of_mem _ (List.mem_append_right _ h)) hown hK hP 0 rfl rfl 8 (by decide) (hts (.fieldLink RX7 29 "RentOrBuyModel" "things" "I") (List.mem_cons_of_mem _ (List.mem_append_left _ (List.mem_of_getElem? (i := 1) rfl)))) (fun _ h9 => h9) rfl dX7_ordersOf_102 ?_
                    obtain ⟨J140, hR140, h⟩ := h
                    have hJ140 : J140 → ∀ (H : Heap) (locs : List Loc) (ls : Array Slot), va_P (dC, dI) vwCl [(a_m, .inr (7, [.int mkd, .int mrt, .int mri, .int mca, .int mpr, .int men, .ref a_mp, .ref a_me, .int mth, .int mrq, .ref a_mq, .long mtr, .ref a_mr, .ref a_mo, .int mos_7, .ref a_ml, .ref a_mt, .ref a_mf])), (a_mo, .inl (kA, 96, .inl moF_99))] H → va_D A [(a_m, .inr (7, [.int mkd, .int mrt, .int mri, .int mca, .int mpr, .int men, .ref a_mp, .ref a_me, .int mth, .int mrq, .ref a_mq, .long mtr, .ref a_mr, .ref a_mo, .int mos_7, .ref a_ml, .ref a_mt, .ref a_mf])), (a_mo, .inl (kA, 96, .inl moF_99))] → va_S A s.heap H locs → lv_has ls 6 [(0, .ref a_m), (1, .int v1_7), (3, .int v3_36)] → W p l e (headSpec wsX7_ordersOf rmX7_ordersOf).room s m args below meth c H locs 0 0 Q (F0 m 140 ls []) := by
                      intro  h H locs ls hP hD hS hl
                      replace h := hR140  h
                      refine lv_aload_n hx hb dX7_ordersOf_140 rfl (lv_at hl 0 rfl) ?_
                      refine lv_dup hx hb dX7_ordersOf_141 rfl ?_
                      refine va_get (D := (dC, dI)) (ci := 7) (v := .int mos_7) (C := RX7) (T := TX7) (N := 18) hx hb hts (fun _ h => List.mem_cons_of_mem _ (List.mem_append_right _ h)) hown hK hP 0 rfl rfl 14 (by decide) (hts (.fieldLink RX7 135 "RentOrBuyModel" "orders" "I") (List.mem_cons_of_mem _ (List.mem_append_left _ (List.mem_of_getElem? (i := 0) rfl)))) (fun _ h9 => h9) rfl dX7_ordersOf_142 ?_
                      refine lv_iload_n hx hb dX7_ordersOf_145 rfl (lv_at hl 2 rfl) ?_
                      obtain ⟨J154, hR154, h⟩ := h
                      have hJ154 : ∀ (t0_154 : Int32), J154 t0_154 → ∀ (H : Heap) (locs : List Loc) (ls : Array Slot), va_P (dC, dI) vwCl [(a_m, .inr (7, [.int mkd, .int mrt, .int mri, .int mca, .int mpr, .int men, .ref a_mp, .ref a_me, .int mth, .int mrq, .ref a_mq, .long mtr, .ref a_mr, .ref a_mo, .int mos_7, .ref a_ml, .ref a_mt, .ref a_mf])), (a_mo, .inl (kA, 96, .inl moF_99))] H → va_D A [(a_m, .inr (7, [.int mkd, .int mrt, .int mri, .int mca, .int mpr, .int men, .ref a_mp, .ref a_me, .int mth, .int mrq, .ref a_mq, .long mtr, .ref a_mr, .ref a_mo, .int mos_7, .ref a_ml, .ref a_mt, .ref a_mf])), (a_mo, .inl (kA, 96, .inl moF_99))] → va_S A s.heap H locs → lv_has ls 6 [(0, .ref a_m), (1, .int v1_7)] → W p l e (headSpec wsX7_ordersOf rmX7_ordersOf).room s m args below meth c H locs 0 0 Q (F0 m 154 ls [.int t0_154, .int mos_7, .ref a_m]) := by
                        intro t0_154 h H locs ls hP hD hS hl
                        replace h := hR154 t0_154 h
                        refine lv_iadd hx hb dX7_ordersOf_154 ?_
                        refine va_put (D := (dC, dI)) (ci := 7) (v := .int (mos_7 + t0_154)) (ty := .int) (C := RX7) (T := TX7) (N := 18) hx hb hts (fun _ h => List.mem_cons_of_mem _ (List.mem_append_right _ h)) tyX7 tyX7_ok nmX7 hown hK hP hD hS 0 rfl rfl 14 (by decide) (hts (.fieldLink RX7 135 "RentOrBuyModel" "orders" "I") (List.mem_cons_of_mem _ (List.mem_append_left _ (List.mem_of_getElem? (i := 0) rfl)))) (fun _ h9 => h9) rfl (by decide +kernel) rfl rfl (Nat.le_of_ble_eq_true rfl) dX7_ordersOf_155 (fun H locs hP hD hS => ?_)
                        have hP : va_P (dC, dI) vwCl [(a_m, .inr (7, [.int mkd, .int mrt, .int mri, .int mca, .int mpr, .int men, .ref a_mp, .ref a_me, .int mth, .int mrq, .ref a_mq, .long mtr, .ref a_mr, .ref a_mo, .int (mos_7 + t0_154), .ref a_ml, .ref a_mt, .ref a_mf])), (a_mo, .inl (kA, 96, .inl moF_99))] H := hP
                        have hD : va_D A [(a_m, .inr (7, [.int mkd, .int mrt, .int mri, .int mca, .int mpr, .int men, .ref a_mp, .ref a_me, .int mth, .int mrq, .ref a_mq, .long mtr, .ref a_mr, .ref a_mo, .int (mos_7 + t0_154), .ref a_ml, .ref a_mt, .ref a_mf])), (a_mo, .inl (kA, 96, .inl moF_99))] := hD
                        refine lv_iinc (v := (v1_7 + (1 : Int32))) (lv' := [(1, .int (v1_7 + (1 : Int32))), (0, .ref a_m)]) hx hb dX7_ordersOf_158 hl (k := 1) rfl (by rfl) (by decide) rfl (fun ls hl => ?_)
                        refine lv_goto (tgt := 7) hx hb dX7_ordersOf_161 (by decide) ?_
                        exact ih7 (v1_7 + (1 : Int32)) (mos_7 + t0_154) moF_99 h _ _ _ hP hD hS (lv_sub hl [1, 0] rfl)
                      refine lv_if_eq (tgt := 153) hx hb dX7_ordersOf_146 (by decide) (fun c146 => ?_) (fun c146 => ?_)
                      · replace h := h.1 c146
                        refine lv_iconst (v := (0 : Int32)) hx hb dX7_ordersOf_153 (by decide +kernel) ?_
                        exact hJ154 (0 : Int32) h _ _ _ hP hD hS (lv_sub hl [0, 1] rfl)
                      · replace h := h.2 c146
                        refine lv_iconst (v := (1 : Int32)) hx hb dX7_ordersOf_149 (by decide +kernel) ?_
                        refine lv_goto (tgt := 154) hx hb dX7_ordersOf_150 (by decide) ?_
                        exact hJ154 (1 : Int32) h _ _ _ hP hD hS (lv_sub hl [0, 1] rfl)
                    refine lv_icmp_ge (tgt := 140) hx hb dX7_ordersOf_105 (by decide) (fun c105 => ?_) (fun c105 => ?_)
                    · replace h := h.1 c105
                      exact hJ140 h _ _ _ hP hD hS (lv_sub hl [0, 1, 2] rfl)
                    · replace h := h.2 c105
                      refine lv_iload_n hx hb dX7_ordersOf_108 rfl (lv_at hl 2 rfl) ?_
                      refine lv_if_eq (tgt := 140) hx hb dX7_ordersOf_109 (by decide) (fun c109 => ?_) (fun c109 => ?_)
                      · replace h := h.1 c109
                        exact hJ140 h _ _ _ hP hD hS (lv_sub hl [0, 1, 2] rfl)
                      · replace h := h.2 c109
                        refine lv_aload_n hx hb dX7_ordersOf_112 rfl (lv_at hl 0 rfl) ?_
                        refine va_get (D := (dC, dI)) (ci := 7) (v := .ref a_mo) (C := RX7) (T := TX7) (N := 18) hx hb hts (fun _ h => List.mem_cons_of_mem _ (List.mem_append_right _ h)) hown hK hP 0 rfl rfl 13 (by decide) (hts (.fieldLink RX7 38 "RentOrBuyModel" "order" "[I") (List.mem_cons_of_mem _ (List.mem_append_left _ (List.mem_of_getElem? (i := 2) rfl)))) (fun _ h9 => h9) rfl dX7_ordersOf_113 ?_
                        refine lv_iconst (v := (4 : Int32)) hx hb dX7_ordersOf_116 (by decide +kernel) ?_
                        refine lv_aload_n hx hb dX7_ordersOf_117 rfl (lv_at hl 0 rfl) ?_
                        refine va_get (D := (dC, dI)) (ci := 7) (v := .int mos_7) (C := RX7) (T := TX7) (N := 18) hx hb hts (fun _ h => List.mem_cons_of_mem _ (List.mem_append_right _ h)) hown hK hP 0 rfl rfl 14 (by decide) (hts (.fieldLink RX7 135 "RentOrBuyModel" "orders" "I") (List.mem_cons_of_mem _ (List.mem_append_left _ (List.mem_of_getElem? (i := 0) rfl)))) (fun _ h9 => h9) rfl dX7_ordersOf_118 ?_
                        refine lv_imul hx hb dX7_ordersOf_121 ?_
                        refine lv_iload hx hb dX7_ordersOf_122 (lv_at hl 3 rfl) ?_
                        refine lv_iadd hx hb dX7_ordersOf_124 ?_
                        refine lv_iload_n hx hb dX7_ordersOf_125 rfl (lv_at hl 1 rfl) ?_
                        refine lv_iconst (v := (2 : Int32)) hx hb dX7_ordersOf_126 (by decide +kernel) ?_
                        refine lv_iload hx hb dX7_ordersOf_127 (lv_at hl 3 rfl) ?_
                        refine lv_imul hx hb dX7_ordersOf_129 ?_
                        refine lv_ishr hx hb dX7_ordersOf_130 ?_
                        refine lv_iconst (v := (3 : Int32)) hx hb dX7_ordersOf_131 (by decide +kernel) ?_
                        refine lv_iand hx hb dX7_ordersOf_132 ?_
                        obtain ⟨hi133, h⟩ := h
                        refine va_iast hx hb hK hP hD hS 1 0 rfl rfl hi133 dX7_ordersOf_133 (fun H locs hP hD hS => ?_)
                        have hP : va_P (dC, dI) vwCl [(a_m, .inr (7, [.int mkd, .int mrt, .int mri, .int mca, .int mpr, .int men, .ref a_mp, .ref a_me, .int mth, .int mrq, .ref a_mq, .long mtr, .ref a_mr, .ref a_mo, .int mos_7, .ref a_ml, .ref a_mt, .ref a_mf])), (a_mo, .inl (kA, 96, .inl (upd moF_99 (((4 : Int32) * mos_7) + v4_99).toNatClampNeg ((v1_7 >>> (((2 : Int32) * v4_99) &&& (31 : Int32))) &&& (3 : Int32)))))] H := hP
                        have hD : va_D A [(a_m, .inr (7, [.int mkd, .int mrt, .int mri, .int mca, .int mpr, .int men, .ref a_mp, .ref a_me, .int mth, .int mrq, .ref a_mq, .long mtr, .ref a_mr, .ref a_mo, .int mos_7, .ref a_ml, .ref a_mt, .ref a_mf])), (a_mo, .inl (kA, 96, .inl (upd moF_99 (((4 : Int32) * mos_7) + v4_99).toNatClampNeg ((v1_7 >>> (((2 : Int32) * v4_99) &&& (31 : Int32))) &&& (3 : Int32)))))] := hD
                        refine lv_iinc (v := (v4_99 + (1 : Int32))) (lv' := [(4, .int (v4_99 + (1 : Int32))), (0, .ref a_m), (1, .int v1_7), (3, .int v3_36)]) hx hb dX7_ordersOf_134 hl (k := 3) rfl (by rfl) (by decide) rfl (fun ls hl => ?_)
                        refine lv_goto (tgt := 99) hx hb dX7_ordersOf_137 (by decide) ?_
                        exact ih99 (v4_99 + (1 : Int32)) (upd moF_99 (((4 : Int32) * mos_7) + v4_99).toNatClampNeg ((v1_7 >>> (((2 : Int32) * v4_99) &&& (31 : Int32))) &&& (3 : Int32))) h _ _ _ hP hD hS (lv_sub hl [1, 2, 3, 0] rfl)
                exact hL99 n99 (0 : Int32) moF_7 h _ _ _ hP hD hS (lv_sub hl [1, 2, 4, 0] rfl)
              · replace h := h.2 c42
                refine lv_iload_n hx hb dX7_ordersOf_45 rfl (lv_at hl 1 rfl) ?_
                refine lv_iconst (v := (2 : Int32)) hx hb dX7_ordersOf_46 (by decide +kernel) ?_
                refine lv_iload hx hb dX7_ordersOf_47 (lv_at hl 4 rfl) ?_
                refine lv_imul hx hb dX7_ordersOf_49 ?_
                refine lv_ishr hx hb dX7_ordersOf_50 ?_
                refine lv_iconst (v := (3 : Int32)) hx hb dX7_ordersOf_51 (by decide +kernel) ?_
                refine lv_iand hx hb dX7_ordersOf_52 ?_
                refine lv_istore (lv' := [(5, .int ((v1_7 >>> (((2 : Int32) * v4_36) &&& (31 : Int32))) &&& (3 : Int32))), (0, .ref a_m), (1, .int v1_7), (2, .int v2_36), (3, .int v3_36), (4, .int v4_36)]) hx hb dX7_ordersOf_53 hl (by decide) rfl (fun ls hl => ?_)
                refine lv_iload_n hx hb dX7_ordersOf_55 rfl (lv_at hl 4 rfl) ?_
                obtain ⟨J82, hR82, h⟩ := h
                have hJ82 : ∀ (t0_82 : Int32), J82 t0_82 → ∀ (H : Heap) (locs : List Loc) (ls : Array Slot), va_P (dC, dI) vwCl [(a_m, .inr (7, [.int mkd, .int mrt, .int mri, .int mca, .int mpr, .int men, .ref a_mp, .ref a_me, .int mth, .int mrq, .ref a_mq, .long mtr, .ref a_mr, .ref a_mo, .int mos_7, .ref a_ml, .ref a_mt, .ref a_mf])), (a_mo, .inl (kA, 96, .inl moF_7))] H → va_D A [(a_m, .inr (7, [.int mkd, .int mrt, .int mri, .int mca, .int mpr, .int men, .ref a_mp, .ref a_me, .int mth, .int mrq, .ref a_mq, .long mtr, .ref a_mr, .ref a_mo, .int mos_7, .ref a_ml, .ref a_mt, .ref a_mf])), (a_mo, .inl (kA, 96, .inl moF_7))] → va_S A s.heap H locs → lv_has ls 6 [(0, .ref a_m), (1, .int v1_7), (2, .int v2_36), (4, .int v4_36), (5, .int ((v1_7 >>> (((2 : Int32) * v4_36) &&& (31 : Int32))) &&& (3 : Int32)))] → W p l e (headSpec wsX7_ordersOf rmX7_ordersOf).room s m args below meth c H locs 0 0 Q (F0 m 82 ls [.int t0_82]) := by
                  intro t0_82 h H locs ls hP hD hS hl
                  replace h := hR82 t0_82 h
                  refine lv_istore_n (lv' := [(3, .int t0_82), (0, .ref a_m), (1, .int v1_7), (2, .int v2_36), (4, .int v4_36), (5, .int ((v1_7 >>> (((2 : Int32) * v4_36) &&& (31 : Int32))) &&& (3 : Int32)))]) hx hb dX7_ordersOf_82 rfl hl (by decide) rfl (fun ls hl => ?_)
                  refine lv_iload_n hx hb dX7_ordersOf_83 rfl (lv_at hl 3 rfl) ?_
                  refine lv_iconst (v := (1 : Int32)) hx hb dX7_ordersOf_84 (by decide +kernel) ?_
                  refine lv_iload hx hb dX7_ordersOf_85 (lv_at hl 5 rfl) ?_
                  refine lv_ishl hx hb dX7_ordersOf_87 ?_
                  refine lv_ior hx hb dX7_ordersOf_88 ?_
                  refine lv_istore_n (lv' := [(2, .int (v2_36 ||| ((1 : Int32) <<< (((v1_7 >>> (((2 : Int32) * v4_36) &&& (31 : Int32))) &&& (3 : Int32)) &&& (31 : Int32))))), (3, .int t0_82), (0, .ref a_m), (1, .int v1_7), (4, .int v4_36), (5, .int ((v1_7 >>> (((2 : Int32) * v4_36) &&& (31 : Int32))) &&& (3 : Int32)))]) hx hb dX7_ordersOf_89 rfl hl (by decide) rfl (fun ls hl => ?_)
                  refine lv_iinc (v := (v4_36 + (1 : Int32))) (lv' := [(4, .int (v4_36 + (1 : Int32))), (2, .int (v2_36 ||| ((1 : Int32) <<< (((v1_7 >>> (((2 : Int32) * v4_36) &&& (31 : Int32))) &&& (3 : Int32)) &&& (31 : Int32))))), (3, .int t0_82), (0, .ref a_m), (1, .int v1_7), (5, .int ((v1_7 >>> (((2 : Int32) * v4_36) &&& (31 : Int32))) &&& (3 : Int32)))]) hx hb dX7_ordersOf_90 hl (k := 4) rfl (by rfl) (by decide) rfl (fun ls hl => ?_)
                  refine lv_goto (tgt := 36) hx hb dX7_ordersOf_93 (by decide) ?_
                  exact ih36 (v2_36 ||| ((1 : Int32) <<< (((v1_7 >>> (((2 : Int32) * v4_36) &&& (31 : Int32))) &&& (3 : Int32)) &&& (31 : Int32)))) t0_82 (v4_36 + (1 : Int32)) h _ _ _ hP hD hS (lv_sub hl [3, 4, 1, 2, 0] rfl)
                obtain ⟨J81, hR81, h⟩ := h
                have hJ81 : J81 → ∀ (H : Heap) (locs : List Loc) (ls : Array Slot), va_P (dC, dI) vwCl [(a_m, .inr (7, [.int mkd, .int mrt, .int mri, .int mca, .int mpr, .int men, .ref a_mp, .ref a_me, .int mth, .int mrq, .ref a_mq, .long mtr, .ref a_mr, .ref a_mo, .int mos_7, .ref a_ml, .ref a_mt, .ref a_mf])), (a_mo, .inl (kA, 96, .inl moF_7))] H → va_D A [(a_m, .inr (7, [.int mkd, .int mrt, .int mri, .int mca, .int mpr, .int men, .ref a_mp, .ref a_me, .int mth, .int mrq, .ref a_mq, .long mtr, .ref a_mr, .ref a_mo, .int mos_7, .ref a_ml, .ref a_mt, .ref a_mf])), (a_mo, .inl (kA, 96, .inl moF_7))] → va_S A s.heap H locs → lv_has ls 6 [(0, .ref a_m), (1, .int v1_7), (2, .int v2_36), (4, .int v4_36), (5, .int ((v1_7 >>> (((2 : Int32) * v4_36) &&& (31 : Int32))) &&& (3 : Int32)))] → W p l e (headSpec wsX7_ordersOf rmX7_ordersOf).room s m args below meth c H locs 0 0 Q (F0 m 81 ls []) := by
                  intro  h H locs ls hP hD hS hl
                  replace h := hR81  h
                  refine lv_iconst (v := (0 : Int32)) hx hb dX7_ordersOf_81 (by decide +kernel) ?_
                  exact hJ82 (0 : Int32) h _ _ _ hP hD hS (lv_sub hl [0, 1, 2, 3, 4] rfl)
                refine lv_if_eq (tgt := 81) hx hb dX7_ordersOf_56 (by decide) (fun c56 => ?_) (fun c56 => ?_)
                · replace h := h.1 c56
                  exact hJ81 h _ _ _ hP hD hS (lv_sub hl [1, 2, 3, 5, 0] rfl)
                · replace h := h.2 c56
                  refine lv_iload hx hb dX7_ordersOf_59 (lv_at hl 0 rfl) ?_
                  refine lv_aload_n hx hb dX7_ordersOf_61 rfl (lv_at hl 1 rfl) ?_
                  refine va_get (D := (dC, dI)) (ci := 7) (v := .int mth) (C := RX7) (T := TX7) (N := 18) hx hb hts (fun _ h => List.mem_cons_of_mem _ (List.mem_append_right _ h)) hown hK hP 0 rfl rfl 8 (by decide) (hts (.fieldLink RX7 29 "RentOrBuyModel" "things" "I") (List.mem_cons_of_mem _ (List.mem_append_left _ (List.mem_of_getElem? (i := 1) rfl)))) (fun _ h9 => h9) rfl dX7_ordersOf_62 ?_
                  refine lv_icmp_ge (tgt := 81) hx hb dX7_ordersOf_65 (by decide) (fun c65 => ?_) (fun c65 => ?_)
                  · replace h := h.1 c65
                    exact hJ81 h _ _ _ hP hD hS (lv_sub hl [1, 2, 3, 5, 0] rfl)
                  · replace h := h.2 c65
                    refine lv_iload_n hx hb dX7_ordersOf_68 rfl (lv_at hl 3 rfl) ?_
                    refine lv_iload hx hb dX7_ordersOf_69 (lv_at hl 0 rfl) ?_
                    refine lv_ishr hx hb dX7_ordersOf_71 ?_
                    refine lv_iconst (v := (1 : Int32)) hx hb dX7_ordersOf_72 (by decide +kernel) ?_
                    refine lv_iand hx hb dX7_ordersOf_73 ?_
                    refine lv_if_ne (tgt := 81) hx hb dX7_ordersOf_74 (by decide) (fun c74 => ?_) (fun c74 => ?_)
                    · replace h := h.1 c74
                      exact hJ81 h _ _ _ hP hD hS (lv_sub hl [1, 2, 3, 5, 0] rfl)
                    · replace h := h.2 c74
                      refine lv_iconst (v := (1 : Int32)) hx hb dX7_ordersOf_77 (by decide +kernel) ?_
                      refine lv_goto (tgt := 82) hx hb dX7_ordersOf_78 (by decide) ?_
                      exact hJ82 (1 : Int32) h _ _ _ hP hD hS (lv_sub hl [1, 2, 3, 5, 0] rfl)
          exact hL36 n36 (0 : Int32) t0_32 (0 : Int32) h _ _ _ hP hD hS (lv_sub hl [2, 3, 4, 1, 0] rfl)
        refine lv_if_ne (tgt := 31) hx hb dX7_ordersOf_24 (by decide) (fun c24 => ?_) (fun c24 => ?_)
        · replace h := h.1 c24
          refine lv_iconst (v := (0 : Int32)) hx hb dX7_ordersOf_31 (by decide +kernel) ?_
          exact hJ32 (0 : Int32) h _ _ _ hP hD hS (lv_sub hl [1, 2, 0] rfl)
        · replace h := h.2 c24
          refine lv_iconst (v := (1 : Int32)) hx hb dX7_ordersOf_27 (by decide +kernel) ?_
          refine lv_goto (tgt := 32) hx hb dX7_ordersOf_28 (by decide) ?_
          exact hJ32 (1 : Int32) h _ _ _ hP hD hS (lv_sub hl [1, 2, 0] rfl)
  exact hL7 n7 (0 : Int32) (0 : Int32) moF h _ _ _ hP hD hS (lv_sub hl [1, 0] rfl)

/-- RentOrBuyModel.ratio -/
def rmX7_ratio : Room := { frames := 4, cells := 0, slots := 0, locals := 90 }
set_option maxHeartbeats 4000000 in
set_option maxRecDepth 100000 in
theorem c_X7_ratio (l : Launch) (dC : Nat → ClassId) (dI : Nat → Nat → Nat) (kA : ClassId) (a_m a_mp a_me a_mq a_mr a_mo a_ml a_mt a_mf : Nat) (sz : Nat) (mkd : Int32) (mrt : Int32) (mri : Int32) (mca : Int32) (mpr : Int32) (men : Int32) (mth : Int32) (mrq : Int32) (mtr : Int64) (mos : Int32) (p1 : Int32) (p2 : Int32) (p3 : Int32) (K : Int32 → Prop) (hg : g_X7_ratio mkd mrt mri mca mpr men mth mrq mtr mos p1 p2 p3 K) : Met l yX7_ratio wsX7_ratio rmX7_ratio (va_Pc [.ref a_m, .int p1, .int p2, .int p3] (prW (dC, dI) kA sz [(a_m, .inr (7, [.int mkd, .int mrt, .int mri, .int mca, .int mpr, .int men, .ref a_mp, .ref a_me, .int mth, .int mrq, .ref a_mq, .long mtr, .ref a_mr, .ref a_mo, .int mos, .ref a_ml, .ref a_mt, .ref a_mf]))])) (va_Qi (fun (r : Int32) (u : Unit) => K r) (poW (dC, dI) (va_A [(a_m, .inr (7, [.int mkd, .int mrt, .int mri, .int mca, .int mpr, .int men, .ref a_mp, .ref a_me, .int mth, .int mrq, .ref a_mq, .long mtr, .ref a_mr, .ref a_mo, .int mos, .ref a_ml, .ref a_mt, .ref a_mf]))] sz) (fun (u : Unit) => [(a_m, .inr (7, [.int mkd, .int mrt, .int mri, .int mca, .int mpr, .int men, .ref a_mp, .ref a_me, .int mth, .int mrq, .ref a_mq, .long mtr, .ref a_mr, .ref a_mo, .int mos, .ref a_ml, .ref a_mt, .ref a_mf]))])) (va_A [(a_m, .inr (7, [.int mkd, .int mrt, .int mri, .int mca, .int mpr, .int men, .ref a_mp, .ref a_me, .int mth, .int mrq, .ref a_mq, .long mtr, .ref a_mr, .ref a_mo, .int mos, .ref a_ml, .ref a_mt, .ref a_mf]))] sz)) 0 0 (va_A [(a_m, .inr (7, [.int mkd, .int mrt, .int mri, .int mca, .int mpr, .int men, .ref a_mp, .ref a_me, .int mth, .int mrq, .ref a_mq, .long mtr, .ref a_mr, .ref a_mo, .int mos, .ref a_ml, .ref a_mt, .ref a_mf]))] sz) := by
  refine Met.ofW (cc := cX7_ratio) (maxL := 8) (ret := (some .int)) (by decide) rfl ?_
  intro p e s m args below meth c s₁ B hml hv
  obtain ⟨hargs, hsz, hP, hK, hD0, hN⟩ := hv
  have hx := B.exec
  have hb := B.bytes
  have hr := B.returns
  have hts := atoms_spec (ws := wsX7_ratio) B.pre
  have hown : s.vm.findClass RX7 = some m.cls := findClass_of_methodNamed B.named
  have hlocks := B.notSynchronized
  subst hsz
  have hD := hD0.self (sz := s.heap.size)
  generalize hAe : va_A [(a_m, .inr (7, [.int mkd, .int mrt, .int mri, .int mca, .int mpr, .int men, .ref a_mp, .ref a_me, .int mth, .int mrq, .ref a_mq, .long mtr, .ref a_mr, .ref a_mo, .int mos, .ref a_ml, .ref a_mt, .ref a_mf]))] s.heap.size = A at hD ⊢
  have hA : ∀ q : Nat, s.heap.size ≤ q → A q := fun q h => by rw [← hAe]; exact Or.inr h
  have hS : va_S A s.heap s.heap [] := va_S.rf
  obtain ⟨Q, hQ⟩ : ∃ Q : State → Prop, Q = MQ below (va_Qi (fun (r : Int32) (u : Unit) => K r) (poW (dC, dI) A (fun (u : Unit) => [(a_m, .inr (7, [.int mkd, .int mrt, .int mri, .int mca, .int mpr, .int men, .ref a_mp, .ref a_me, .int mth, .int mrq, .ref a_mq, .long mtr, .ref a_mr, .ref a_mo, .int mos, .ref a_ml, .ref a_mt, .ref a_mf]))])) A) args s 0 0 A := ⟨_, rfl⟩
  rw [← hQ]
  have hP : va_P (dC, dI) vwCl [(a_m, .inr (7, [.int mkd, .int mrt, .int mri, .int mca, .int mpr, .int men, .ref a_mp, .ref a_me, .int mth, .int mrq, .ref a_mq, .long mtr, .ref a_mr, .ref a_mo, .int mos, .ref a_ml, .ref a_mt, .ref a_mf]))] s.heap := hP
  refine en_ok hargs (Nat.le_of_ble_eq_true rfl) (fun ls hl => ?_)
  have hl : lv_has ls 8 [(0, .ref a_m), (1, .int p1), (2, .int p2), (3, .int p3)] := hl
  have h := hg
  unfold g_X7_ratio at h
  refine lv_aload_n hx hb dX7_ratio_0 rfl (lv_at hl 0 rfl) ?_
  refine lv_iload_n hx hb dX7_ratio_1 rfl (lv_at hl 1 rfl) ?_
  have hPc := hP.sub (ws' := [(a_m, .inr (7, [.int mkd, .int mrt, .int mri, .int mca, .int mpr, .int men, .ref a_mp, .ref a_me, .int mth, .int mrq, .ref a_mq, .long mtr, .ref a_mr, .ref a_mo, .int mos, .ref a_ml, .ref a_mt, .ref a_mf]))]) [0] rfl
  have hDc := hD.sub (ws' := [(a_m, .inr (7, [.int mkd, .int mrt, .int mri, .int mca, .int mpr, .int men, .ref a_mp, .ref a_me, .int mth, .int mrq, .ref a_mq, .long mtr, .ref a_mr, .ref a_mo, .int mos, .ref a_ml, .ref a_mt, .ref a_mf]))]) [0] (by decide) rfl
  refine fr_i (wr := []) (WN := fun (u2 : Unit) => [(a_m, .inr (7, [.int mkd, .int mrt, .int mri, .int mca, .int mpr, .int men, .ref a_mp, .ref a_me, .int mth, .int mrq, .ref a_mq, .long mtr, .ref a_mr, .ref a_mo, .int mos, .ref a_ml, .ref a_mt, .ref a_mf]))]) (va_runV (As := [.int p1]) (rest := []) ⟨hx, hb, hml, hown, hts⟩ (c_X7_isPlan l dC dI kA a_m a_mp a_me a_mq a_mr a_mo a_ml a_mt a_mf s.heap.size mkd mrt mri mca mpr men mth mrq mtr mos p1 _ h) (cwV 1 hts gX7_ratio_X7_isPlan rfl rfl rfl (by decide +kernel) ⟨Nat.le_of_ble_eq_true rfl, Nat.le_of_ble_eq_true rfl⟩) (prW.preV (ci := 7) (q0 := 0) hPc hDc hK hN rfl rfl) rfl rfl hl.1 rfl (lv_room (Nat.le_of_ble_eq_true rfl)) dX7_ratio_2 ⟨Nat.le_of_ble_eq_true rfl, Nat.le_of_ble_eq_true rfl⟩) hP hD hS hA [0] [] rfl rfl (by decide) (by decide) [0] (by decide) (fun _ => rfl) (fun r2 u2 H locs h hP hD hS => ?_)
  have hP : va_P (dC, dI) vwCl [(a_m, .inr (7, [.int mkd, .int mrt, .int mri, .int mca, .int mpr, .int men, .ref a_mp, .ref a_me, .int mth, .int mrq, .ref a_mq, .long mtr, .ref a_mr, .ref a_mo, .int mos, .ref a_ml, .ref a_mt, .ref a_mf]))] H := hP
  have hD : va_D A [(a_m, .inr (7, [.int mkd, .int mrt, .int mri, .int mca, .int mpr, .int men, .ref a_mp, .ref a_me, .int mth, .int mrq, .ref a_mq, .long mtr, .ref a_mr, .ref a_mo, .int mos, .ref a_ml, .ref a_mt, .ref a_mf]))] := hD
  refine lv_if_eq (tgt := 29) hx hb dX7_ratio_5 (by decide) (fun c5 => ?_) (fun c5 => ?_)
  · replace h := h.1 c5
    refine lv_iconst (v := (-1 : Int32)) hx hb dX7_ratio_29 (by decide +kernel) ?_
    rw [hQ]
    exact rt_i () hx hb hr hlocks h hP hD hS dX7_ratio_30
  · replace h := h.2 c5
    refine lv_iload_n hx hb dX7_ratio_8 rfl (lv_at hl 2 rfl) ?_
    obtain ⟨J20, hR20, h⟩ := h
    have hJ20 : J20 → ∀ (H : Heap) (locs : List Loc) (ls : Array Slot), va_P (dC, dI) vwCl [(a_m, .inr (7, [.int mkd, .int mrt, .int mri, .int mca, .int mpr, .int men, .ref a_mp, .ref a_me, .int mth, .int mrq, .ref a_mq, .long mtr, .ref a_mr, .ref a_mo, .int mos, .ref a_ml, .ref a_mt, .ref a_mf]))] H → va_D A [(a_m, .inr (7, [.int mkd, .int mrt, .int mri, .int mca, .int mpr, .int men, .ref a_mp, .ref a_me, .int mth, .int mrq, .ref a_mq, .long mtr, .ref a_mr, .ref a_mo, .int mos, .ref a_ml, .ref a_mt, .ref a_mf]))] → va_S A s.heap H locs → lv_has ls 8 [(0, .ref a_m), (1, .int p1), (2, .int p2), (3, .int p3)] → W p l e (headSpec wsX7_ratio rmX7_ratio).room s m args below meth c H locs 0 0 Q (F0 m 20 ls []) := by
      intro  h H locs ls hP hD hS hl
      replace h := hR20  h
      refine lv_iload_n hx hb dX7_ratio_20 rfl (lv_at hl 3 rfl) ?_
      refine lv_iconst (v := (0 : Int32)) hx hb dX7_ratio_21 (by decide +kernel) ?_
      refine lv_iconst (v := (1 : Int32)) hx hb dX7_ratio_22 (by decide +kernel) ?_
      have hPc := hP.sub (ws' := []) [] rfl
      have hDc := hD.sub (ws' := []) [] (by decide) rfl
      refine fr_i (wr := [(a_m, .inr (7, [.int mkd, .int mrt, .int mri, .int mca, .int mpr, .int men, .ref a_mp, .ref a_me, .int mth, .int mrq, .ref a_mq, .long mtr, .ref a_mr, .ref a_mo, .int mos, .ref a_ml, .ref a_mt, .ref a_mf]))]) (WN := fun (u23 : Unit) => [(a_m, .inr (7, [.int mkd, .int mrt, .int mri, .int mca, .int mpr, .int men, .ref a_mp, .ref a_me, .int mth, .int mrq, .ref a_mq, .long mtr, .ref a_mr, .ref a_mo, .int mos, .ref a_ml, .ref a_mt, .ref a_mf]))]) (va_runS (As := [.int p3, .int (0 : Int32), .int (1 : Int32)]) (rest := []) ⟨hx, hb, hml, hown, hts⟩ (c_X7_in l dC dI kA H.size p3 (0 : Int32) (1 : Int32) _ h) (va_cwS 3 hts gX7_ratio_X7_in rfl rfl rfl (by decide +kernel) ⟨Nat.le_of_ble_eq_true rfl, Nat.le_of_ble_eq_true rfl⟩) (prW.preS hPc hDc hK hN) rfl rfl hl.1 rfl (lv_room (Nat.le_of_ble_eq_true rfl)) dX7_ratio_23 ⟨Nat.le_of_ble_eq_true rfl, Nat.le_of_ble_eq_true rfl⟩) hP hD hS hA [] [0] rfl rfl (by decide) (by decide) [0] (by decide) (fun _ => rfl) (fun r23 u23 H locs h hP hD hS => ?_)
      have hP : va_P (dC, dI) vwCl [(a_m, .inr (7, [.int mkd, .int mrt, .int mri, .int mca, .int mpr, .int men, .ref a_mp, .ref a_me, .int mth, .int mrq, .ref a_mq, .long mtr, .ref a_mr, .ref a_mo, .int mos, .ref a_ml, .ref a_mt, .ref a_mf]))] H := hP
      have hD : va_D A [(a_m, .inr (7, [.int mkd, .int mrt, .int mri, .int mca, .int mpr, .int men, .ref a_mp, .ref a_me, .int mth, .int mrq, .ref a_mq, .long mtr, .ref a_mr, .ref a_mo, .int mos, .ref a_ml, .ref a_mt, .ref a_mf]))] := hD
      refine lv_if_ne (tgt := 31) hx hb dX7_ratio_26 (by decide) (fun c26 => ?_) (fun c26 => ?_)
      · replace h := h.1 c26
        refine lv_iload_n hx hb dX7_ratio_31 rfl (lv_at hl 2 rfl) ?_
        obtain ⟨J44, hR44, h⟩ := h
        have hJ44 : ∀ (t0_44 : Int32), J44 t0_44 → ∀ (H : Heap) (locs : List Loc) (ls : Array Slot), va_P (dC, dI) vwCl [(a_m, .inr (7, [.int mkd, .int mrt, .int mri, .int mca, .int mpr, .int men, .ref a_mp, .ref a_me, .int mth, .int mrq, .ref a_mq, .long mtr, .ref a_mr, .ref a_mo, .int mos, .ref a_ml, .ref a_mt, .ref a_mf]))] H → va_D A [(a_m, .inr (7, [.int mkd, .int mrt, .int mri, .int mca, .int mpr, .int men, .ref a_mp, .ref a_me, .int mth, .int mrq, .ref a_mq, .long mtr, .ref a_mr, .ref a_mo, .int mos, .ref a_ml, .ref a_mt, .ref a_mf]))] → va_S A s.heap H locs → lv_has ls 8 [(0, .ref a_m), (1, .int p1), (3, .int p3)] → W p l e (headSpec wsX7_ratio rmX7_ratio).room s m args below meth c H locs 0 0 Q (F0 m 44 ls [.int t0_44]) := by
          intro t0_44 h H locs ls hP hD hS hl
          replace h := hR44 t0_44 h
          refine lv_istore (lv' := [(4, .int t0_44), (0, .ref a_m), (1, .int p1), (3, .int p3)]) hx hb dX7_ratio_44 hl (by decide) rfl (fun ls hl => ?_)
          refine lv_aload_n hx hb dX7_ratio_46 rfl (lv_at hl 1 rfl) ?_
          refine lv_iload_n hx hb dX7_ratio_47 rfl (lv_at hl 2 rfl) ?_
          refine lv_iload hx hb dX7_ratio_48 (lv_at hl 0 rfl) ?_
          have hPc := hP.sub (ws' := [(a_m, .inr (7, [.int mkd, .int mrt, .int mri, .int mca, .int mpr, .int men, .ref a_mp, .ref a_me, .int mth, .int mrq, .ref a_mq, .long mtr, .ref a_mr, .ref a_mo, .int mos, .ref a_ml, .ref a_mt, .ref a_mf]))]) [0] rfl
          have hDc := hD.sub (ws' := [(a_m, .inr (7, [.int mkd, .int mrt, .int mri, .int mca, .int mpr, .int men, .ref a_mp, .ref a_me, .int mth, .int mrq, .ref a_mq, .long mtr, .ref a_mr, .ref a_mo, .int mos, .ref a_ml, .ref a_mt, .ref a_mf]))]) [0] (by decide) rfl
          refine fr_i (wr := []) (WN := fun (u50 : Unit) => [(a_m, .inr (7, [.int mkd, .int mrt, .int mri, .int mca, .int mpr, .int men, .ref a_mp, .ref a_me, .int mth, .int mrq, .ref a_mq, .long mtr, .ref a_mr, .ref a_mo, .int mos, .ref a_ml, .ref a_mt, .ref a_mf]))]) (va_runV (As := [.int p1, .int t0_44]) (rest := []) ⟨hx, hb, hml, hown, hts⟩ (c_X7_costOf l dC dI kA a_m a_mp a_me a_mq a_mr a_mo a_ml a_mt a_mf H.size mkd mrt mri mca mpr men mth mrq mtr mos p1 t0_44 _ h) (cwV 2 hts gX7_ratio_X7_costOf rfl rfl rfl (by decide +kernel) ⟨Nat.le_of_ble_eq_true rfl, Nat.le_of_ble_eq_true rfl⟩) (prW.preV (ci := 7) (q0 := 0) hPc hDc hK hN rfl rfl) rfl rfl hl.1 rfl (lv_room (Nat.le_of_ble_eq_true rfl)) dX7_ratio_50 ⟨Nat.le_of_ble_eq_true rfl, Nat.le_of_ble_eq_true rfl⟩) hP hD hS hA [0] [] rfl rfl (by decide) (by decide) [0] (by decide) (fun _ => rfl) (fun r50 u50 H locs h hP hD hS => ?_)
          have hP : va_P (dC, dI) vwCl [(a_m, .inr (7, [.int mkd, .int mrt, .int mri, .int mca, .int mpr, .int men, .ref a_mp, .ref a_me, .int mth, .int mrq, .ref a_mq, .long mtr, .ref a_mr, .ref a_mo, .int mos, .ref a_ml, .ref a_mt, .ref a_mf]))] H := hP
          have hD : va_D A [(a_m, .inr (7, [.int mkd, .int mrt, .int mri, .int mca, .int mpr, .int men, .ref a_mp, .ref a_me, .int mth, .int mrq, .ref a_mq, .long mtr, .ref a_mr, .ref a_mo, .int mos, .ref a_ml, .ref a_mt, .ref a_mf]))] := hD
          refine lv_istore (lv' := [(5, .int r50), (4, .int t0_44), (0, .ref a_m), (1, .int p1), (3, .int p3)]) hx hb dX7_ratio_53 hl (by decide) rfl (fun ls hl => ?_)
          refine lv_aload_n hx hb dX7_ratio_55 rfl (lv_at hl 2 rfl) ?_
          refine lv_iload hx hb dX7_ratio_56 (lv_at hl 1 rfl) ?_
          have hPc := hP.sub (ws' := [(a_m, .inr (7, [.int mkd, .int mrt, .int mri, .int mca, .int mpr, .int men, .ref a_mp, .ref a_me, .int mth, .int mrq, .ref a_mq, .long mtr, .ref a_mr, .ref a_mo, .int mos, .ref a_ml, .ref a_mt, .ref a_mf]))]) [0] rfl
          have hDc := hD.sub (ws' := [(a_m, .inr (7, [.int mkd, .int mrt, .int mri, .int mca, .int mpr, .int men, .ref a_mp, .ref a_me, .int mth, .int mrq, .ref a_mq, .long mtr, .ref a_mr, .ref a_mo, .int mos, .ref a_ml, .ref a_mt, .ref a_mf]))]) [0] (by decide) rfl
          refine fr_i (wr := []) (WN := fun (u58 : Unit) => [(a_m, .inr (7, [.int mkd, .int mrt, .int mri, .int mca, .int mpr, .int men, .ref a_mp, .ref a_me, .int mth, .int mrq, .ref a_mq, .long mtr, .ref a_mr, .ref a_mo, .int mos, .ref a_ml, .ref a_mt, .ref a_mf]))]) (va_runV (As := [.int t0_44]) (rest := []) ⟨hx, hb, hml, hown, hts⟩ (c_X7_knownBy l dC dI kA a_m a_mp a_me a_mq a_mr a_mo a_ml a_mt a_mf H.size mkd mrt mri mca mpr men mth mrq mtr mos t0_44 _ h) (cwV 1 hts gX7_ratio_X7_knownBy rfl rfl rfl (by decide +kernel) ⟨Nat.le_of_ble_eq_true rfl, Nat.le_of_ble_eq_true rfl⟩) (prW.preV (ci := 7) (q0 := 0) hPc hDc hK hN rfl rfl) rfl rfl hl.1 rfl (lv_room (Nat.le_of_ble_eq_true rfl)) dX7_ratio_58 ⟨Nat.le_of_ble_eq_true rfl, Nat.le_of_ble_eq_true rfl⟩) hP hD hS hA [0] [] rfl rfl (by decide) (by decide) [0] (by decide) (fun _ => rfl) (fun r58 u58 H locs h hP hD hS => ?_)
          have hP : va_P (dC, dI) vwCl [(a_m, .inr (7, [.int mkd, .int mrt, .int mri, .int mca, .int mpr, .int men, .ref a_mp, .ref a_me, .int mth, .int mrq, .ref a_mq, .long mtr, .ref a_mr, .ref a_mo, .int mos, .ref a_ml, .ref a_mt, .ref a_mf]))] H := hP
          have hD : va_D A [(a_m, .inr (7, [.int mkd, .int mrt, .int mri, .int mca, .int mpr, .int men, .ref a_mp, .ref a_me, .int mth, .int mrq, .ref a_mq, .long mtr, .ref a_mr, .ref a_mo, .int mos, .ref a_ml, .ref a_mt, .ref a_mf]))] := hD
          refine lv_istore (lv' := [(6, .int r58), (5, .int r50), (4, .int t0_44), (0, .ref a_m), (1, .int p1), (3, .int p3)]) hx hb dX7_ratio_61 hl (by decide) rfl (fun ls hl => ?_)
          refine lv_iload hx hb dX7_ratio_63 (lv_at hl 1 rfl) ?_
          refine lv_i2l hx hb dX7_ratio_65 rfl ?_
          refine lv_iload hx hb dX7_ratio_66 (lv_at hl 0 rfl) ?_
          refine lv_i2l hx hb dX7_ratio_68 rfl ?_
          have hPc := hP.sub (ws' := []) [] rfl
          have hDc := hD.sub (ws' := []) [] (by decide) rfl
          refine fr_l (wr := [(a_m, .inr (7, [.int mkd, .int mrt, .int mri, .int mca, .int mpr, .int men, .ref a_mp, .ref a_me, .int mth, .int mrq, .ref a_mq, .long mtr, .ref a_mr, .ref a_mo, .int mos, .ref a_ml, .ref a_mt, .ref a_mf]))]) (WN := fun (u69 : Unit) => [(a_m, .inr (7, [.int mkd, .int mrt, .int mri, .int mca, .int mpr, .int men, .ref a_mp, .ref a_me, .int mth, .int mrq, .ref a_mq, .long mtr, .ref a_mr, .ref a_mo, .int mos, .ref a_ml, .ref a_mt, .ref a_mf]))]) (va_runS (As := [.long r50.toInt64, .long r58.toInt64]) (rest := []) ⟨hx, hb, hml, hown, hts⟩ (c_X7_common l dC dI kA H.size r50.toInt64 r58.toInt64 _ h) (va_cwS 2 hts gX7_ratio_X7_common rfl rfl rfl (by decide +kernel) ⟨Nat.le_of_ble_eq_true rfl, Nat.le_of_ble_eq_true rfl⟩) (prW.preS hPc hDc hK hN) rfl rfl hl.1 rfl (lv_room (Nat.le_of_ble_eq_true rfl)) dX7_ratio_69 ⟨Nat.le_of_ble_eq_true rfl, Nat.le_of_ble_eq_true rfl⟩) hP hD hS hA [] [0] rfl rfl (by decide) (by decide) [0] (by decide) (fun _ => rfl) (fun r69 u69 H locs h hP hD hS => ?_)
          have hP : va_P (dC, dI) vwCl [(a_m, .inr (7, [.int mkd, .int mrt, .int mri, .int mca, .int mpr, .int men, .ref a_mp, .ref a_me, .int mth, .int mrq, .ref a_mq, .long mtr, .ref a_mr, .ref a_mo, .int mos, .ref a_ml, .ref a_mt, .ref a_mf]))] H := hP
          have hD : va_D A [(a_m, .inr (7, [.int mkd, .int mrt, .int mri, .int mca, .int mpr, .int men, .ref a_mp, .ref a_me, .int mth, .int mrq, .ref a_mq, .long mtr, .ref a_mr, .ref a_mo, .int mos, .ref a_ml, .ref a_mt, .ref a_mf]))] := hD
          refine lv_l2i hx hb dX7_ratio_72 rfl ?_
          refine lv_istore (lv' := [(7, .int r69.toInt32), (6, .int r58), (5, .int r50), (4, .int t0_44), (0, .ref a_m), (1, .int p1), (3, .int p3)]) hx hb dX7_ratio_73 hl (by decide) rfl (fun ls hl => ?_)
          refine lv_iload_n hx hb dX7_ratio_75 rfl (lv_at hl 6 rfl) ?_
          refine lv_if_ne (tgt := 87) hx hb dX7_ratio_76 (by decide) (fun c76 => ?_) (fun c76 => ?_)
          · replace h := h.1 c76
            refine lv_iload hx hb dX7_ratio_87 (lv_at hl 1 rfl) ?_
            refine lv_iload hx hb dX7_ratio_89 (lv_at hl 0 rfl) ?_
            obtain ⟨hz91, h⟩ := h
            refine lv_idiv hx hb dX7_ratio_91 hz91 ?_
            rw [hQ]
            exact rt_i () hx hb hr hlocks h hP hD hS dX7_ratio_92
          · replace h := h.2 c76
            refine lv_iload hx hb dX7_ratio_79 (lv_at hl 2 rfl) ?_
            refine lv_iload hx hb dX7_ratio_81 (lv_at hl 0 rfl) ?_
            obtain ⟨hz83, h⟩ := h
            refine lv_idiv hx hb dX7_ratio_83 hz83 ?_
            refine lv_goto (tgt := 92) hx hb dX7_ratio_84 (by decide) ?_
            rw [hQ]
            exact rt_i () hx hb hr hlocks h hP hD hS dX7_ratio_92
        refine lv_if_ne (tgt := 43) hx hb dX7_ratio_32 (by decide) (fun c32 => ?_) (fun c32 => ?_)
        · replace h := h.1 c32
          refine lv_iload_n hx hb dX7_ratio_43 rfl (lv_at hl 2 rfl) ?_
          exact hJ44 p2 h _ _ _ hP hD hS (lv_sub hl [0, 1, 3] rfl)
        · replace h := h.2 c32
          refine lv_aload_n hx hb dX7_ratio_35 rfl (lv_at hl 0 rfl) ?_
          refine lv_iload_n hx hb dX7_ratio_36 rfl (lv_at hl 1 rfl) ?_
          have hPc := hP.sub (ws' := [(a_m, .inr (7, [.int mkd, .int mrt, .int mri, .int mca, .int mpr, .int men, .ref a_mp, .ref a_me, .int mth, .int mrq, .ref a_mq, .long mtr, .ref a_mr, .ref a_mo, .int mos, .ref a_ml, .ref a_mt, .ref a_mf]))]) [0] rfl
          have hDc := hD.sub (ws' := [(a_m, .inr (7, [.int mkd, .int mrt, .int mri, .int mca, .int mpr, .int men, .ref a_mp, .ref a_me, .int mth, .int mrq, .ref a_mq, .long mtr, .ref a_mr, .ref a_mo, .int mos, .ref a_ml, .ref a_mt, .ref a_mf]))]) [0] (by decide) rfl
          refine fr_i (wr := []) (WN := fun (u37 : Unit) => [(a_m, .inr (7, [.int mkd, .int mrt, .int mri, .int mca, .int mpr, .int men, .ref a_mp, .ref a_me, .int mth, .int mrq, .ref a_mq, .long mtr, .ref a_mr, .ref a_mo, .int mos, .ref a_ml, .ref a_mt, .ref a_mf]))]) (va_runV (As := [.int p1]) (rest := []) ⟨hx, hb, hml, hown, hts⟩ (c_X7_worstEnd l dC dI kA a_m a_mp a_me a_mq a_mr a_mo a_ml a_mt a_mf H.size mkd mrt mri mca mpr men mth mrq mtr mos p1 _ h) (cwV 1 hts gX7_ratio_X7_worstEnd rfl rfl rfl (by decide +kernel) ⟨Nat.le_of_ble_eq_true rfl, Nat.le_of_ble_eq_true rfl⟩) (prW.preV (ci := 7) (q0 := 0) hPc hDc hK hN rfl rfl) rfl rfl hl.1 rfl (lv_room (Nat.le_of_ble_eq_true rfl)) dX7_ratio_37 ⟨Nat.le_of_ble_eq_true rfl, Nat.le_of_ble_eq_true rfl⟩) hP hD hS hA [0] [] rfl rfl (by decide) (by decide) [0] (by decide) (fun _ => rfl) (fun r37 u37 H locs h hP hD hS => ?_)
          have hP : va_P (dC, dI) vwCl [(a_m, .inr (7, [.int mkd, .int mrt, .int mri, .int mca, .int mpr, .int men, .ref a_mp, .ref a_me, .int mth, .int mrq, .ref a_mq, .long mtr, .ref a_mr, .ref a_mo, .int mos, .ref a_ml, .ref a_mt, .ref a_mf]))] H := hP
          have hD : va_D A [(a_m, .inr (7, [.int mkd, .int mrt, .int mri, .int mca, .int mpr, .int men, .ref a_mp, .ref a_me, .int mth, .int mrq, .ref a_mq, .long mtr, .ref a_mr, .ref a_mo, .int mos, .ref a_ml, .ref a_mt, .ref a_mf]))] := hD
          refine lv_goto (tgt := 44) hx hb dX7_ratio_40 (by decide) ?_
          exact hJ44 r37 h _ _ _ hP hD hS (lv_sub hl [0, 1, 3] rfl)
      · replace h := h.2 c26
        refine lv_iconst (v := (-1 : Int32)) hx hb dX7_ratio_29 (by decide +kernel) ?_
        rw [hQ]
        exact rt_i () hx hb hr hlocks h hP hD hS dX7_ratio_30
    refine lv_if_eq (tgt := 20) hx hb dX7_ratio_9 (by decide) (fun c9 => ?_) (fun c9 => ?_)
    · replace h := h.1 c9
      exact hJ20 h _ _ _ hP hD hS (lv_sub hl [0, 1, 2, 3] rfl)
    · replace h := h.2 c9
      refine lv_aload_n hx hb dX7_ratio_12 rfl (lv_at hl 0 rfl) ?_
      refine lv_iload_n hx hb dX7_ratio_13 rfl (lv_at hl 2 rfl) ?_
      have hPc := hP.sub (ws' := [(a_m, .inr (7, [.int mkd, .int mrt, .int mri, .int mca, .int mpr, .int men, .ref a_mp, .ref a_me, .int mth, .int mrq, .ref a_mq, .long mtr, .ref a_mr, .ref a_mo, .int mos, .ref a_ml, .ref a_mt, .ref a_mf]))]) [0] rfl
      have hDc := hD.sub (ws' := [(a_m, .inr (7, [.int mkd, .int mrt, .int mri, .int mca, .int mpr, .int men, .ref a_mp, .ref a_me, .int mth, .int mrq, .ref a_mq, .long mtr, .ref a_mr, .ref a_mo, .int mos, .ref a_ml, .ref a_mt, .ref a_mf]))]) [0] (by decide) rfl
      refine fr_i (wr := []) (WN := fun (u14 : Unit) => [(a_m, .inr (7, [.int mkd, .int mrt, .int mri, .int mca, .int mpr, .int men, .ref a_mp, .ref a_me, .int mth, .int mrq, .ref a_mq, .long mtr, .ref a_mr, .ref a_mo, .int mos, .ref a_ml, .ref a_mt, .ref a_mf]))]) (va_runV (As := [.int p2]) (rest := []) ⟨hx, hb, hml, hown, hts⟩ (c_X7_isEnd l dC dI kA a_m a_mp a_me a_mq a_mr a_mo a_ml a_mt a_mf H.size mkd mrt mri mca mpr men mth mrq mtr mos p2 _ h) (cwV 1 hts gX7_ratio_X7_isEnd rfl rfl rfl (by decide +kernel) ⟨Nat.le_of_ble_eq_true rfl, Nat.le_of_ble_eq_true rfl⟩) (prW.preV (ci := 7) (q0 := 0) hPc hDc hK hN rfl rfl) rfl rfl hl.1 rfl (lv_room (Nat.le_of_ble_eq_true rfl)) dX7_ratio_14 ⟨Nat.le_of_ble_eq_true rfl, Nat.le_of_ble_eq_true rfl⟩) hP hD hS hA [0] [] rfl rfl (by decide) (by decide) [0] (by decide) (fun _ => rfl) (fun r14 u14 H locs h hP hD hS => ?_)
      have hP : va_P (dC, dI) vwCl [(a_m, .inr (7, [.int mkd, .int mrt, .int mri, .int mca, .int mpr, .int men, .ref a_mp, .ref a_me, .int mth, .int mrq, .ref a_mq, .long mtr, .ref a_mr, .ref a_mo, .int mos, .ref a_ml, .ref a_mt, .ref a_mf]))] H := hP
      have hD : va_D A [(a_m, .inr (7, [.int mkd, .int mrt, .int mri, .int mca, .int mpr, .int men, .ref a_mp, .ref a_me, .int mth, .int mrq, .ref a_mq, .long mtr, .ref a_mr, .ref a_mo, .int mos, .ref a_ml, .ref a_mt, .ref a_mf]))] := hD
      refine lv_if_eq (tgt := 29) hx hb dX7_ratio_17 (by decide) (fun c17 => ?_) (fun c17 => ?_)
      · replace h := h.1 c17
        refine lv_iconst (v := (-1 : Int32)) hx hb dX7_ratio_29 (by decide +kernel) ?_
        rw [hQ]
        exact rt_i () hx hb hr hlocks h hP hD hS dX7_ratio_30
      · replace h := h.2 c17
        exact hJ20 h _ _ _ hP hD hS (lv_sub hl [0, 1, 2, 3] rfl)

/-- RentOrBuyModel.rent -/
def rmX7_rent : Room := { frames := 1, cells := 0, slots := 0, locals := 22 }
set_option maxHeartbeats 4000000 in
set_option maxRecDepth 100000 in
theorem c_X7_rent (l : Launch) (dC : Nat → ClassId) (dI : Nat → Nat → Nat) (kA : ClassId) (a_m a_mp a_me a_mq a_mr a_mo a_ml a_mt a_mf : Nat) (sz : Nat) (mkd : Int32) (mrt : Int32) (mri : Int32) (mca : Int32) (mpr : Int32) (men : Int32) (mth : Int32) (mrq : Int32) (mtr : Int64) (mos : Int32) (p1 : Int32) (K : Int32 → Int64 → Prop) (hg : g_X7_rent mkd mrt mri mca mpr men mth mrq mtr mos p1 K) : Met l yX7_rent wsX7_rent rmX7_rent (va_Pc [.ref a_m, .int p1] (prW (dC, dI) kA sz [(a_m, .inr (7, [.int mkd, .int mrt, .int mri, .int mca, .int mpr, .int men, .ref a_mp, .ref a_me, .int mth, .int mrq, .ref a_mq, .long mtr, .ref a_mr, .ref a_mo, .int mos, .ref a_ml, .ref a_mt, .ref a_mf]))])) (va_Qi (fun (r : Int32) (u : Int64) => K r u) (poW (dC, dI) (va_A [(a_m, .inr (7, [.int mkd, .int mrt, .int mri, .int mca, .int mpr, .int men, .ref a_mp, .ref a_me, .int mth, .int mrq, .ref a_mq, .long mtr, .ref a_mr, .ref a_mo, .int mos, .ref a_ml, .ref a_mt, .ref a_mf]))] sz) (fun (u : Int64) => [(a_m, .inr (7, [.int mkd, .int mrt, .int mri, .int mca, .int mpr, .int men, .ref a_mp, .ref a_me, .int mth, .int mrq, .ref a_mq, .long u, .ref a_mr, .ref a_mo, .int mos, .ref a_ml, .ref a_mt, .ref a_mf]))])) (va_A [(a_m, .inr (7, [.int mkd, .int mrt, .int mri, .int mca, .int mpr, .int men, .ref a_mp, .ref a_me, .int mth, .int mrq, .ref a_mq, .long mtr, .ref a_mr, .ref a_mo, .int mos, .ref a_ml, .ref a_mt, .ref a_mf]))] sz)) 0 0 (va_A [(a_m, .inr (7, [.int mkd, .int mrt, .int mri, .int mca, .int mpr, .int men, .ref a_mp, .ref a_me, .int mth, .int mrq, .ref a_mq, .long mtr, .ref a_mr, .ref a_mo, .int mos, .ref a_ml, .ref a_mt, .ref a_mf]))] sz) := by
  refine Met.ofW (cc := cX7_rent) (maxL := 2) (ret := (some .int)) (by decide) rfl ?_
  intro p e s m args below meth c s₁ B hml hv
  obtain ⟨hargs, hsz, hP, hK, hD0, hN⟩ := hv
  have hx := B.exec
  have hb := B.bytes
  have hr := B.returns
  have hts := atoms_spec (ws := wsX7_rent) B.pre
  have hown : s.vm.findClass RX7 = some m.cls := findClass_of_methodNamed B.named
  have hlocks := B.notSynchronized
  subst hsz
  have hD := hD0.self (sz := s.heap.size)
  generalize hAe : va_A [(a_m, .inr (7, [.int mkd, .int mrt, .int mri, .int mca, .int mpr, .int men, .ref a_mp, .ref a_me, .int mth, .int mrq, .ref a_mq, .long mtr, .ref a_mr, .ref a_mo, .int mos, .ref a_ml, .ref a_mt, .ref a_mf]))] s.heap.size = A at hD ⊢
  have hA : ∀ q : Nat, s.heap.size ≤ q → A q := fun q h => by rw [← hAe]; exact Or.inr h
  have hS : va_S A s.heap s.heap [] := va_S.rf
  obtain ⟨Q, hQ⟩ : ∃ Q : State → Prop, Q = MQ below (va_Qi (fun (r : Int32) (u : Int64) => K r u) (poW (dC, dI) A (fun (u : Int64) => [(a_m, .inr (7, [.int mkd, .int mrt, .int mri, .int mca, .int mpr, .int men, .ref a_mp, .ref a_me, .int mth, .int mrq, .ref a_mq, .long u, .ref a_mr, .ref a_mo, .int mos, .ref a_ml, .ref a_mt, .ref a_mf]))])) A) args s 0 0 A := ⟨_, rfl⟩
  rw [← hQ]
  have hP : va_P (dC, dI) vwCl [(a_m, .inr (7, [.int mkd, .int mrt, .int mri, .int mca, .int mpr, .int men, .ref a_mp, .ref a_me, .int mth, .int mrq, .ref a_mq, .long mtr, .ref a_mr, .ref a_mo, .int mos, .ref a_ml, .ref a_mt, .ref a_mf]))] s.heap := hP
  refine en_ok hargs (Nat.le_of_ble_eq_true rfl) (fun ls hl => ?_)
  have hl : lv_has ls 2 [(0, .ref a_m), (1, .int p1)] := hl
  have h := hg
  unfold g_X7_rent at h
  refine lv_iload_n hx hb dX7_rent_0 rfl (lv_at hl 1 rfl) ?_
  refine lv_iconst (v := (1 : Int32)) hx hb dX7_rent_1 (by decide +kernel) ?_
  refine lv_bipush (v := (40 : Int32)) hx hb dX7_rent_2 (by decide +kernel) ?_
  have hPc := hP.sub (ws' := []) [] rfl
  have hDc := hD.sub (ws' := []) [] (by decide) rfl
  refine fr_i (wr := [(a_m, .inr (7, [.int mkd, .int mrt, .int mri, .int mca, .int mpr, .int men, .ref a_mp, .ref a_me, .int mth, .int mrq, .ref a_mq, .long mtr, .ref a_mr, .ref a_mo, .int mos, .ref a_ml, .ref a_mt, .ref a_mf]))]) (WN := fun (u4 : Unit) => [(a_m, .inr (7, [.int mkd, .int mrt, .int mri, .int mca, .int mpr, .int men, .ref a_mp, .ref a_me, .int mth, .int mrq, .ref a_mq, .long mtr, .ref a_mr, .ref a_mo, .int mos, .ref a_ml, .ref a_mt, .ref a_mf]))]) (va_runS (As := [.int p1, .int (1 : Int32), .int (40 : Int32)]) (rest := []) ⟨hx, hb, hml, hown, hts⟩ (c_X7_in l dC dI kA s.heap.size p1 (1 : Int32) (40 : Int32) _ h) (va_cwS 3 hts gX7_rent_X7_in rfl rfl rfl (by decide +kernel) ⟨Nat.le_of_ble_eq_true rfl, Nat.le_of_ble_eq_true rfl⟩) (prW.preS hPc hDc hK hN) rfl rfl hl.1 rfl (lv_room (Nat.le_of_ble_eq_true rfl)) dX7_rent_4 ⟨Nat.le_of_ble_eq_true rfl, Nat.le_of_ble_eq_true rfl⟩) hP hD hS hA [] [0] rfl rfl (by decide) (by decide) [0] (by decide) (fun _ => rfl) (fun r4 u4 H locs h hP hD hS => ?_)
  have hP : va_P (dC, dI) vwCl [(a_m, .inr (7, [.int mkd, .int mrt, .int mri, .int mca, .int mpr, .int men, .ref a_mp, .ref a_me, .int mth, .int mrq, .ref a_mq, .long mtr, .ref a_mr, .ref a_mo, .int mos, .ref a_ml, .ref a_mt, .ref a_mf]))] H := hP
  have hD : va_D A [(a_m, .inr (7, [.int mkd, .int mrt, .int mri, .int mca, .int mpr, .int men, .ref a_mp, .ref a_me, .int mth, .int mrq, .ref a_mq, .long mtr, .ref a_mr, .ref a_mo, .int mos, .ref a_ml, .ref a_mt, .ref a_mf]))] := hD
  refine lv_if_ne (tgt := 12) hx hb dX7_rent_7 (by decide) (fun c7 => ?_) (fun c7 => ?_)
  · replace h := h.1 c7
    refine lv_aload_n hx hb dX7_rent_12 rfl (lv_at hl 0 rfl) ?_
    refine lv_dup hx hb dX7_rent_13 rfl ?_
    refine va_get (D := (dC, dI)) (ci := 7) (v := .long mtr) (C := RX7) (T := TX7) (N := 18) hx hb hts (fun _ h => List.mem_cons_of_mem _ (List.mem_append_right _ h)) hown hK hP 0 rfl rfl 11 (by decide) (hts (.fieldLink RX7 73 "RentOrBuyModel" "trace" "J") (List.mem_cons_of_mem _ (List.mem_append_left _ (List.mem_of_getElem? (i := 0) rfl)))) (fun _ h9 => h9) rfl dX7_rent_14 ?_
    refine lv_aload_n hx hb dX7_rent_17 rfl (lv_at hl 0 rfl) ?_
    refine va_get (D := (dC, dI)) (ci := 7) (v := .int mkd) (C := RX7) (T := TX7) (N := 18) hx hb hts (fun _ h => List.mem_cons_of_mem _ (List.mem_append_right _ h)) hown hK hP 0 rfl rfl 0 (by decide) (hts (.fieldLink RX7 53 "RentOrBuyModel" "kind" "I") (List.mem_cons_of_mem _ (List.mem_append_left _ (List.mem_of_getElem? (i := 1) rfl)))) (fun _ h9 => h9) rfl dX7_rent_18 ?_
    obtain ⟨J45, hR45, h⟩ := h
    have hJ45 : ∀ (t0_45 : Int64), J45 t0_45 → ∀ (H : Heap) (locs : List Loc) (ls : Array Slot), va_P (dC, dI) vwCl [(a_m, .inr (7, [.int mkd, .int mrt, .int mri, .int mca, .int mpr, .int men, .ref a_mp, .ref a_me, .int mth, .int mrq, .ref a_mq, .long mtr, .ref a_mr, .ref a_mo, .int mos, .ref a_ml, .ref a_mt, .ref a_mf]))] H → va_D A [(a_m, .inr (7, [.int mkd, .int mrt, .int mri, .int mca, .int mpr, .int men, .ref a_mp, .ref a_me, .int mth, .int mrq, .ref a_mq, .long mtr, .ref a_mr, .ref a_mo, .int mos, .ref a_ml, .ref a_mt, .ref a_mf]))] → va_S A s.heap H locs → lv_has ls 2 [(0, .ref a_m), (1, .int p1)] → W p l e (headSpec wsX7_rent rmX7_rent).room s m args below meth c H locs 0 0 Q (F0 m 45 ls [.long t0_45, .long mtr, .ref a_m]) := by
      intro t0_45 h H locs ls hP hD hS hl
      replace h := hR45 t0_45 h
      refine lv_ladd hx hb dX7_rent_45 ?_
      refine va_put (D := (dC, dI)) (ci := 7) (v := .long (mtr + t0_45)) (ty := .long) (C := RX7) (T := TX7) (N := 18) hx hb hts (fun _ h => List.mem_cons_of_mem _ (List.mem_append_right _ h)) tyX7 tyX7_ok nmX7 hown hK hP hD hS 0 rfl rfl 11 (by decide) (hts (.fieldLink RX7 73 "RentOrBuyModel" "trace" "J") (List.mem_cons_of_mem _ (List.mem_append_left _ (List.mem_of_getElem? (i := 0) rfl)))) (fun _ h9 => h9) rfl (by decide +kernel) rfl rfl (Nat.le_of_ble_eq_true rfl) dX7_rent_46 (fun H locs hP hD hS => ?_)
      have hP : va_P (dC, dI) vwCl [(a_m, .inr (7, [.int mkd, .int mrt, .int mri, .int mca, .int mpr, .int men, .ref a_mp, .ref a_me, .int mth, .int mrq, .ref a_mq, .long (mtr + t0_45), .ref a_mr, .ref a_mo, .int mos, .ref a_ml, .ref a_mt, .ref a_mf]))] H := hP
      have hD : va_D A [(a_m, .inr (7, [.int mkd, .int mrt, .int mri, .int mca, .int mpr, .int men, .ref a_mp, .ref a_me, .int mth, .int mrq, .ref a_mq, .long (mtr + t0_45), .ref a_mr, .ref a_mo, .int mos, .ref a_ml, .ref a_mt, .ref a_mf]))] := hD
      refine lv_aload_n hx hb dX7_rent_49 rfl (lv_at hl 0 rfl) ?_
      refine lv_iload_n hx hb dX7_rent_50 rfl (lv_at hl 1 rfl) ?_
      have hPc := hP.sub (ws' := [(a_m, .inr (7, [.int mkd, .int mrt, .int mri, .int mca, .int mpr, .int men, .ref a_mp, .ref a_me, .int mth, .int mrq, .ref a_mq, .long (mtr + t0_45), .ref a_mr, .ref a_mo, .int mos, .ref a_ml, .ref a_mt, .ref a_mf]))]) [0] rfl
      have hDc := hD.sub (ws' := [(a_m, .inr (7, [.int mkd, .int mrt, .int mri, .int mca, .int mpr, .int men, .ref a_mp, .ref a_me, .int mth, .int mrq, .ref a_mq, .long (mtr + t0_45), .ref a_mr, .ref a_mo, .int mos, .ref a_ml, .ref a_mt, .ref a_mf]))]) [0] (by decide) rfl
      refine fr_i (wr := []) (WN := fun (u51 : Unit) => [(a_m, .inr (7, [.int mkd, .int mrt, .int mri, .int mca, .int mpr, .int men, .ref a_mp, .ref a_me, .int mth, .int mrq, .ref a_mq, .long (mtr + t0_45), .ref a_mr, .ref a_mo, .int mos, .ref a_ml, .ref a_mt, .ref a_mf]))]) (va_runV (As := [.int p1]) (rest := []) ⟨hx, hb, hml, hown, hts⟩ (c_X7_rentOf l dC dI kA a_m a_mp a_me a_mq a_mr a_mo a_ml a_mt a_mf H.size mkd mrt mri mca mpr men mth mrq (mtr + t0_45) mos p1 _ h) (cwV 1 hts gX7_rent_X7_rentOf rfl rfl rfl (by decide +kernel) ⟨Nat.le_of_ble_eq_true rfl, Nat.le_of_ble_eq_true rfl⟩) (prW.preV (ci := 7) (q0 := 0) hPc hDc hK hN rfl rfl) rfl rfl hl.1 rfl (lv_room (Nat.le_of_ble_eq_true rfl)) dX7_rent_51 ⟨Nat.le_of_ble_eq_true rfl, Nat.le_of_ble_eq_true rfl⟩) hP hD hS hA [0] [] rfl rfl (by decide) (by decide) [0] (by decide) (fun _ => rfl) (fun r51 u51 H locs h hP hD hS => ?_)
      have hP : va_P (dC, dI) vwCl [(a_m, .inr (7, [.int mkd, .int mrt, .int mri, .int mca, .int mpr, .int men, .ref a_mp, .ref a_me, .int mth, .int mrq, .ref a_mq, .long (mtr + t0_45), .ref a_mr, .ref a_mo, .int mos, .ref a_ml, .ref a_mt, .ref a_mf]))] H := hP
      have hD : va_D A [(a_m, .inr (7, [.int mkd, .int mrt, .int mri, .int mca, .int mpr, .int men, .ref a_mp, .ref a_me, .int mth, .int mrq, .ref a_mq, .long (mtr + t0_45), .ref a_mr, .ref a_mo, .int mos, .ref a_ml, .ref a_mt, .ref a_mf]))] := hD
      rw [hQ]
      exact rt_i ((mtr + t0_45)) hx hb hr hlocks h hP hD hS dX7_rent_54
    refine lv_if_ne (tgt := 28) hx hb dX7_rent_21 (by decide) (fun c21 => ?_) (fun c21 => ?_)
    · replace h := h.1 c21
      refine lv_aload_n hx hb dX7_rent_28 rfl (lv_at hl 0 rfl) ?_
      refine va_get (D := (dC, dI)) (ci := 7) (v := .int mkd) (C := RX7) (T := TX7) (N := 18) hx hb hts (fun _ h => List.mem_cons_of_mem _ (List.mem_append_right _ h)) hown hK hP 0 rfl rfl 0 (by decide) (hts (.fieldLink RX7 53 "RentOrBuyModel" "kind" "I") (List.mem_cons_of_mem _ (List.mem_append_left _ (List.mem_of_getElem? (i := 1) rfl)))) (fun _ h9 => h9) rfl dX7_rent_29 ?_
      refine lv_iconst (v := (1 : Int32)) hx hb dX7_rent_32 (by decide +kernel) ?_
      refine lv_icmp_ne (tgt := 42) hx hb dX7_rent_33 (by decide) (fun c33 => ?_) (fun c33 => ?_)
      · replace h := h.1 c33
        refine lv_ldc2 (v := (111 : Int64)) hx hb hown (hts (.constantLong RX7 79 (111)) (List.mem_cons_of_mem _ (List.mem_append_left _ (List.mem_of_getElem? (i := 3) rfl)))) dX7_rent_42 ?_
        exact hJ45 (111 : Int64) h _ _ _ hP hD hS (lv_sub hl [0, 1] rfl)
      · replace h := h.2 c33
        refine lv_ldc2 (v := (11 : Int64)) hx hb hown (hts (.constantLong RX7 77 (11)) (List.mem_cons_of_mem _ (List.mem_append_left _ (List.mem_of_getElem? (i := 2) rfl)))) dX7_rent_36 ?_
        refine lv_goto (tgt := 45) hx hb dX7_rent_39 (by decide) ?_
        exact hJ45 (11 : Int64) h _ _ _ hP hD hS (lv_sub hl [0, 1] rfl)
    · replace h := h.2 c21
      refine lv_lconst (v := (1 : Int64)) hx hb dX7_rent_24 (by decide +kernel) ?_
      refine lv_goto (tgt := 45) hx hb dX7_rent_25 (by decide) ?_
      exact hJ45 (1 : Int64) h _ _ _ hP hD hS (lv_sub hl [0, 1] rfl)
  · replace h := h.2 c7
    refine lv_iconst (v := (-1 : Int32)) hx hb dX7_rent_10 (by decide +kernel) ?_
    rw [hQ]
    exact rt_i (mtr) hx hb hr hlocks h hP hD hS dX7_rent_11

/-- RentOrBuyModel.request -/
def rmX7_request : Room := { frames := 1, cells := 0, slots := 0, locals := 22 }
set_option maxHeartbeats 4000000 in
set_option maxRecDepth 100000 in
theorem c_X7_request (l : Launch) (dC : Nat → ClassId) (dI : Nat → Nat → Nat) (kA : ClassId) (a_m a_mq a_mp a_me a_mr a_mo a_ml a_mt a_mf : Nat) (sz : Nat) (mkd : Int32) (mrt : Int32) (mri : Int32) (mca : Int32) (mpr : Int32) (men : Int32) (mth : Int32) (mrq : Int32) (mtr : Int64) (mos : Int32) (mqF : Nat → Int32) (p1 : Int32) (K : Int32 → Int32 → (Nat → Int32) → Prop) (hg : g_X7_request mkd mrt mri mca mpr men mth mrq mtr mos mqF p1 K) : Met l yX7_request wsX7_request rmX7_request (va_Pc [.ref a_m, .int p1] (prW (dC, dI) kA sz [(a_m, .inr (7, [.int mkd, .int mrt, .int mri, .int mca, .int mpr, .int men, .ref a_mp, .ref a_me, .int mth, .int mrq, .ref a_mq, .long mtr, .ref a_mr, .ref a_mo, .int mos, .ref a_ml, .ref a_mt, .ref a_mf])), (a_mq, .inl (kA, 16, .inl mqF))])) (va_Qi (fun (r : Int32) (u : Int32 × (Nat → Int32)) => K r u.1 u.2) (poW (dC, dI) (va_A [(a_m, .inr (7, [.int mkd, .int mrt, .int mri, .int mca, .int mpr, .int men, .ref a_mp, .ref a_me, .int mth, .int mrq, .ref a_mq, .long mtr, .ref a_mr, .ref a_mo, .int mos, .ref a_ml, .ref a_mt, .ref a_mf])), (a_mq, .inl (kA, 16, .inl mqF))] sz) (fun (u : Int32 × (Nat → Int32)) => [(a_m, .inr (7, [.int mkd, .int mrt, .int mri, .int mca, .int mpr, .int men, .ref a_mp, .ref a_me, .int mth, .int u.1, .ref a_mq, .long mtr, .ref a_mr, .ref a_mo, .int mos, .ref a_ml, .ref a_mt, .ref a_mf])), (a_mq, .inl (kA, 16, .inl u.2))])) (va_A [(a_m, .inr (7, [.int mkd, .int mrt, .int mri, .int mca, .int mpr, .int men, .ref a_mp, .ref a_me, .int mth, .int mrq, .ref a_mq, .long mtr, .ref a_mr, .ref a_mo, .int mos, .ref a_ml, .ref a_mt, .ref a_mf])), (a_mq, .inl (kA, 16, .inl mqF))] sz)) 0 0 (va_A [(a_m, .inr (7, [.int mkd, .int mrt, .int mri, .int mca, .int mpr, .int men, .ref a_mp, .ref a_me, .int mth, .int mrq, .ref a_mq, .long mtr, .ref a_mr, .ref a_mo, .int mos, .ref a_ml, .ref a_mt, .ref a_mf])), (a_mq, .inl (kA, 16, .inl mqF))] sz) := by
  refine Met.ofW (cc := cX7_request) (maxL := 2) (ret := (some .int)) (by decide) rfl ?_
  intro p e s m args below meth c s₁ B hml hv
  obtain ⟨hargs, hsz, hP, hK, hD0, hN⟩ := hv
  have hx := B.exec
  have hb := B.bytes
  have hr := B.returns
  have hts := atoms_spec (ws := wsX7_request) B.pre
  have hown : s.vm.findClass RX7 = some m.cls := findClass_of_methodNamed B.named
  have hlocks := B.notSynchronized
  subst hsz
  have hD := hD0.self (sz := s.heap.size)
  generalize hAe : va_A [(a_m, .inr (7, [.int mkd, .int mrt, .int mri, .int mca, .int mpr, .int men, .ref a_mp, .ref a_me, .int mth, .int mrq, .ref a_mq, .long mtr, .ref a_mr, .ref a_mo, .int mos, .ref a_ml, .ref a_mt, .ref a_mf])), (a_mq, .inl (kA, 16, .inl mqF))] s.heap.size = A at hD ⊢
  have hA : ∀ q : Nat, s.heap.size ≤ q → A q := fun q h => by rw [← hAe]; exact Or.inr h
  have hS : va_S A s.heap s.heap [] := va_S.rf
  obtain ⟨Q, hQ⟩ : ∃ Q : State → Prop, Q = MQ below (va_Qi (fun (r : Int32) (u : Int32 × (Nat → Int32)) => K r u.1 u.2) (poW (dC, dI) A (fun (u : Int32 × (Nat → Int32)) => [(a_m, .inr (7, [.int mkd, .int mrt, .int mri, .int mca, .int mpr, .int men, .ref a_mp, .ref a_me, .int mth, .int u.1, .ref a_mq, .long mtr, .ref a_mr, .ref a_mo, .int mos, .ref a_ml, .ref a_mt, .ref a_mf])), (a_mq, .inl (kA, 16, .inl u.2))])) A) args s 0 0 A := ⟨_, rfl⟩
  rw [← hQ]
  have hP : va_P (dC, dI) vwCl [(a_m, .inr (7, [.int mkd, .int mrt, .int mri, .int mca, .int mpr, .int men, .ref a_mp, .ref a_me, .int mth, .int mrq, .ref a_mq, .long mtr, .ref a_mr, .ref a_mo, .int mos, .ref a_ml, .ref a_mt, .ref a_mf])), (a_mq, .inl (kA, 16, .inl mqF))] s.heap := hP
  refine en_ok hargs (Nat.le_of_ble_eq_true rfl) (fun ls hl => ?_)
  have hl : lv_has ls 2 [(0, .ref a_m), (1, .int p1)] := hl
  have h := hg
  unfold g_X7_request at h
  refine lv_iload_n hx hb dX7_request_0 rfl (lv_at hl 1 rfl) ?_
  refine lv_iconst (v := (0 : Int32)) hx hb dX7_request_1 (by decide +kernel) ?_
  refine lv_aload_n hx hb dX7_request_2 rfl (lv_at hl 0 rfl) ?_
  refine va_get (D := (dC, dI)) (ci := 7) (v := .int mth) (C := RX7) (T := TX7) (N := 18) hx hb hts (fun _ h => List.mem_cons_of_mem _ (List.mem_append_right _ h)) hown hK hP 0 rfl rfl 8 (by decide) (hts (.fieldLink RX7 29 "RentOrBuyModel" "things" "I") (List.mem_cons_of_mem _ (List.mem_append_left _ (List.mem_of_getElem? (i := 0) rfl)))) (fun _ h9 => h9) rfl dX7_request_3 ?_
  refine lv_iconst (v := (1 : Int32)) hx hb dX7_request_6 (by decide +kernel) ?_
  refine lv_isub hx hb dX7_request_7 ?_
  have hPc := hP.sub (ws' := []) [] rfl
  have hDc := hD.sub (ws' := []) [] (by decide) rfl
  refine fr_i (wr := [(a_m, .inr (7, [.int mkd, .int mrt, .int mri, .int mca, .int mpr, .int men, .ref a_mp, .ref a_me, .int mth, .int mrq, .ref a_mq, .long mtr, .ref a_mr, .ref a_mo, .int mos, .ref a_ml, .ref a_mt, .ref a_mf])), (a_mq, .inl (kA, 16, .inl mqF))]) (WN := fun (u8 : Unit) => [(a_m, .inr (7, [.int mkd, .int mrt, .int mri, .int mca, .int mpr, .int men, .ref a_mp, .ref a_me, .int mth, .int mrq, .ref a_mq, .long mtr, .ref a_mr, .ref a_mo, .int mos, .ref a_ml, .ref a_mt, .ref a_mf])), (a_mq, .inl (kA, 16, .inl mqF))]) (va_runS (As := [.int p1, .int (0 : Int32), .int (mth - (1 : Int32))]) (rest := []) ⟨hx, hb, hml, hown, hts⟩ (c_X7_in l dC dI kA s.heap.size p1 (0 : Int32) (mth - (1 : Int32)) _ h) (va_cwS 3 hts gX7_request_X7_in rfl rfl rfl (by decide +kernel) ⟨Nat.le_of_ble_eq_true rfl, Nat.le_of_ble_eq_true rfl⟩) (prW.preS hPc hDc hK hN) rfl rfl hl.1 rfl (lv_room (Nat.le_of_ble_eq_true rfl)) dX7_request_8 ⟨Nat.le_of_ble_eq_true rfl, Nat.le_of_ble_eq_true rfl⟩) hP hD hS hA [] [0, 1] rfl rfl (by decide) (by decide) [0, 1] (by decide) (fun _ => rfl) (fun r8 u8 H locs h hP hD hS => ?_)
  have hP : va_P (dC, dI) vwCl [(a_m, .inr (7, [.int mkd, .int mrt, .int mri, .int mca, .int mpr, .int men, .ref a_mp, .ref a_me, .int mth, .int mrq, .ref a_mq, .long mtr, .ref a_mr, .ref a_mo, .int mos, .ref a_ml, .ref a_mt, .ref a_mf])), (a_mq, .inl (kA, 16, .inl mqF))] H := hP
  have hD : va_D A [(a_m, .inr (7, [.int mkd, .int mrt, .int mri, .int mca, .int mpr, .int men, .ref a_mp, .ref a_me, .int mth, .int mrq, .ref a_mq, .long mtr, .ref a_mr, .ref a_mo, .int mos, .ref a_ml, .ref a_mt, .ref a_mf])), (a_mq, .inl (kA, 16, .inl mqF))] := hD
  refine lv_if_ne (tgt := 16) hx hb dX7_request_11 (by decide) (fun c11 => ?_) (fun c11 => ?_)
  · replace h := h.1 c11
    refine lv_aload_n hx hb dX7_request_16 rfl (lv_at hl 0 rfl) ?_
    refine va_get (D := (dC, dI)) (ci := 7) (v := .int mrq) (C := RX7) (T := TX7) (N := 18) hx hb hts (fun _ h => List.mem_cons_of_mem _ (List.mem_append_right _ h)) hown hK hP 0 rfl rfl 9 (by decide) (hts (.fieldLink RX7 50 "RentOrBuyModel" "requests" "I") (List.mem_cons_of_mem _ (List.mem_append_left _ (List.mem_of_getElem? (i := 1) rfl)))) (fun _ h9 => h9) rfl dX7_request_17 ?_
    refine lv_bipush (v := (16 : Int32)) hx hb dX7_request_20 (by decide +kernel) ?_
    refine lv_icmp_ne (tgt := 28) hx hb dX7_request_22 (by decide) (fun c22 => ?_) (fun c22 => ?_)
    · replace h := h.1 c22
      refine lv_aload_n hx hb dX7_request_28 rfl (lv_at hl 0 rfl) ?_
      refine va_get (D := (dC, dI)) (ci := 7) (v := .ref a_mq) (C := RX7) (T := TX7) (N := 18) hx hb hts (fun _ h => List.mem_cons_of_mem _ (List.mem_append_right _ h)) hown hK hP 0 rfl rfl 10 (by decide) (hts (.fieldLink RX7 32 "RentOrBuyModel" "request" "[I") (List.mem_cons_of_mem _ (List.mem_append_left _ (List.mem_of_getElem? (i := 2) rfl)))) (fun _ h9 => h9) rfl dX7_request_29 ?_
      refine lv_aload_n hx hb dX7_request_32 rfl (lv_at hl 0 rfl) ?_
      refine va_get (D := (dC, dI)) (ci := 7) (v := .int mrq) (C := RX7) (T := TX7) (N := 18) hx hb hts (fun _ h => List.mem_cons_of_mem _ (List.mem_append_right _ h)) hown hK hP 0 rfl rfl 9 (by decide) (hts (.fieldLink RX7 50 "RentOrBuyModel" "requests" "I") (List.mem_cons_of_mem _ (List.mem_append_left _ (List.mem_of_getElem? (i := 1) rfl)))) (fun _ h9 => h9) rfl dX7_request_33 ?_
      refine lv_iload_n hx hb dX7_request_36 rfl (lv_at hl 1 rfl) ?_
      obtain ⟨hi37, h⟩ := h
      refine va_iast hx hb hK hP hD hS 1 0 rfl rfl hi37 dX7_request_37 (fun H locs hP hD hS => ?_)
      have hP : va_P (dC, dI) vwCl [(a_m, .inr (7, [.int mkd, .int mrt, .int mri, .int mca, .int mpr, .int men, .ref a_mp, .ref a_me, .int mth, .int mrq, .ref a_mq, .long mtr, .ref a_mr, .ref a_mo, .int mos, .ref a_ml, .ref a_mt, .ref a_mf])), (a_mq, .inl (kA, 16, .inl (upd mqF mrq.toNatClampNeg p1)))] H := hP
      have hD : va_D A [(a_m, .inr (7, [.int mkd, .int mrt, .int mri, .int mca, .int mpr, .int men, .ref a_mp, .ref a_me, .int mth, .int mrq, .ref a_mq, .long mtr, .ref a_mr, .ref a_mo, .int mos, .ref a_ml, .ref a_mt, .ref a_mf])), (a_mq, .inl (kA, 16, .inl (upd mqF mrq.toNatClampNeg p1)))] := hD
      refine lv_aload_n hx hb dX7_request_38 rfl (lv_at hl 0 rfl) ?_
      refine lv_dup hx hb dX7_request_39 rfl ?_
      refine va_get (D := (dC, dI)) (ci := 7) (v := .int mrq) (C := RX7) (T := TX7) (N := 18) hx hb hts (fun _ h => List.mem_cons_of_mem _ (List.mem_append_right _ h)) hown hK hP 0 rfl rfl 9 (by decide) (hts (.fieldLink RX7 50 "RentOrBuyModel" "requests" "I") (List.mem_cons_of_mem _ (List.mem_append_left _ (List.mem_of_getElem? (i := 1) rfl)))) (fun _ h9 => h9) rfl dX7_request_40 ?_
      refine lv_iconst (v := (1 : Int32)) hx hb dX7_request_43 (by decide +kernel) ?_
      refine lv_iadd hx hb dX7_request_44 ?_
      refine va_put (D := (dC, dI)) (ci := 7) (v := .int (mrq + (1 : Int32))) (ty := .int) (C := RX7) (T := TX7) (N := 18) hx hb hts (fun _ h => List.mem_cons_of_mem _ (List.mem_append_right _ h)) tyX7 tyX7_ok nmX7 hown hK hP hD hS 0 rfl rfl 9 (by decide) (hts (.fieldLink RX7 50 "RentOrBuyModel" "requests" "I") (List.mem_cons_of_mem _ (List.mem_append_left _ (List.mem_of_getElem? (i := 1) rfl)))) (fun _ h9 => h9) rfl (by decide +kernel) rfl rfl (Nat.le_of_ble_eq_true rfl) dX7_request_45 (fun H locs hP hD hS => ?_)
      have hP : va_P (dC, dI) vwCl [(a_m, .inr (7, [.int mkd, .int mrt, .int mri, .int mca, .int mpr, .int men, .ref a_mp, .ref a_me, .int mth, .int (mrq + (1 : Int32)), .ref a_mq, .long mtr, .ref a_mr, .ref a_mo, .int mos, .ref a_ml, .ref a_mt, .ref a_mf])), (a_mq, .inl (kA, 16, .inl (upd mqF mrq.toNatClampNeg p1)))] H := hP
      have hD : va_D A [(a_m, .inr (7, [.int mkd, .int mrt, .int mri, .int mca, .int mpr, .int men, .ref a_mp, .ref a_me, .int mth, .int (mrq + (1 : Int32)), .ref a_mq, .long mtr, .ref a_mr, .ref a_mo, .int mos, .ref a_ml, .ref a_mt, .ref a_mf])), (a_mq, .inl (kA, 16, .inl (upd mqF mrq.toNatClampNeg p1)))] := hD
      refine lv_aload_n hx hb dX7_request_48 rfl (lv_at hl 0 rfl) ?_
      refine va_get (D := (dC, dI)) (ci := 7) (v := .int (mrq + (1 : Int32))) (C := RX7) (T := TX7) (N := 18) hx hb hts (fun _ h => List.mem_cons_of_mem _ (List.mem_append_right _ h)) hown hK hP 0 rfl rfl 9 (by decide) (hts (.fieldLink RX7 50 "RentOrBuyModel" "requests" "I") (List.mem_cons_of_mem _ (List.mem_append_left _ (List.mem_of_getElem? (i := 1) rfl)))) (fun _ h9 => h9) rfl dX7_request_49 ?_
      rw [hQ]
      exact rt_i ((mrq + (1 : Int32)), (upd mqF mrq.toNatClampNeg p1)) hx hb hr hlocks h hP hD hS dX7_request_52
    · replace h := h.2 c22
      refine lv_bipush (v := (-3 : Int32)) hx hb dX7_request_25 (by decide +kernel) ?_
      rw [hQ]
      exact rt_i (mrq, mqF) hx hb hr hlocks h hP hD hS dX7_request_27
  · replace h := h.2 c11
    refine lv_iconst (v := (-1 : Int32)) hx hb dX7_request_14 (by decide +kernel) ?_
    rw [hQ]
    exact rt_i (mrq, mqF) hx hb hr hlocks h hP hD hS dX7_request_15

/-- RentOrBuyModel.staysCost -/
def rmX7_staysCost : Room := { frames := 1, cells := 0, slots := 0, locals := 23 }
set_option maxHeartbeats 4000000 in
set_option maxRecDepth 100000 in
theorem c_X7_staysCost (l : Launch) (dC : Nat → ClassId) (dI : Nat → Nat → Nat) (kA : ClassId) (a_m a_mq a_mo a_mp a_me a_mr a_ml a_mt a_mf : Nat) (sz : Nat) (mkd : Int32) (mrt : Int32) (mri : Int32) (mca : Int32) (mpr : Int32) (men : Int32) (mth : Int32) (mrq : Int32) (mtr : Int64) (mos : Int32) (mqF : Nat → Int32) (moF : Nat → Int32) (p1 : Int32) (K : Int32 → Prop) (hg : g_X7_staysCost mkd mrt mri mca mpr men mth mrq mtr mos mqF moF p1 K) : Met l yX7_staysCost wsX7_staysCost rmX7_staysCost (va_Pc [.ref a_m, .int p1] (prW (dC, dI) kA sz [(a_m, .inr (7, [.int mkd, .int mrt, .int mri, .int mca, .int mpr, .int men, .ref a_mp, .ref a_me, .int mth, .int mrq, .ref a_mq, .long mtr, .ref a_mr, .ref a_mo, .int mos, .ref a_ml, .ref a_mt, .ref a_mf])), (a_mq, .inl (kA, 16, .inl mqF)), (a_mo, .inl (kA, 96, .inl moF))])) (va_Qi (fun (r : Int32) (u : Unit) => K r) (poW (dC, dI) (va_A [(a_m, .inr (7, [.int mkd, .int mrt, .int mri, .int mca, .int mpr, .int men, .ref a_mp, .ref a_me, .int mth, .int mrq, .ref a_mq, .long mtr, .ref a_mr, .ref a_mo, .int mos, .ref a_ml, .ref a_mt, .ref a_mf])), (a_mq, .inl (kA, 16, .inl mqF)), (a_mo, .inl (kA, 96, .inl moF))] sz) (fun (u : Unit) => [(a_m, .inr (7, [.int mkd, .int mrt, .int mri, .int mca, .int mpr, .int men, .ref a_mp, .ref a_me, .int mth, .int mrq, .ref a_mq, .long mtr, .ref a_mr, .ref a_mo, .int mos, .ref a_ml, .ref a_mt, .ref a_mf])), (a_mq, .inl (kA, 16, .inl mqF)), (a_mo, .inl (kA, 96, .inl moF))])) (va_A [(a_m, .inr (7, [.int mkd, .int mrt, .int mri, .int mca, .int mpr, .int men, .ref a_mp, .ref a_me, .int mth, .int mrq, .ref a_mq, .long mtr, .ref a_mr, .ref a_mo, .int mos, .ref a_ml, .ref a_mt, .ref a_mf])), (a_mq, .inl (kA, 16, .inl mqF)), (a_mo, .inl (kA, 96, .inl moF))] sz)) 0 0 (va_A [(a_m, .inr (7, [.int mkd, .int mrt, .int mri, .int mca, .int mpr, .int men, .ref a_mp, .ref a_me, .int mth, .int mrq, .ref a_mq, .long mtr, .ref a_mr, .ref a_mo, .int mos, .ref a_ml, .ref a_mt, .ref a_mf])), (a_mq, .inl (kA, 16, .inl mqF)), (a_mo, .inl (kA, 96, .inl moF))] sz) := by
  refine Met.ofW (cc := cX7_staysCost) (maxL := 4) (ret := (some .int)) (by decide) rfl ?_
  intro p e s m args below meth c s₁ B hml hv
  obtain ⟨hargs, hsz, hP, hK, hD0, hN⟩ := hv
  have hx := B.exec
  have hb := B.bytes
  have hr := B.returns
  have hts := atoms_spec (ws := wsX7_staysCost) B.pre
  have hown : s.vm.findClass RX7 = some m.cls := findClass_of_methodNamed B.named
  have hlocks := B.notSynchronized
  subst hsz
  have hD := hD0.self (sz := s.heap.size)
  generalize hAe : va_A [(a_m, .inr (7, [.int mkd, .int mrt, .int mri, .int mca, .int mpr, .int men, .ref a_mp, .ref a_me, .int mth, .int mrq, .ref a_mq, .long mtr, .ref a_mr, .ref a_mo, .int mos, .ref a_ml, .ref a_mt, .ref a_mf])), (a_mq, .inl (kA, 16, .inl mqF)), (a_mo, .inl (kA, 96, .inl moF))] s.heap.size = A at hD ⊢
  have hA : ∀ q : Nat, s.heap.size ≤ q → A q := fun q h => by rw [← hAe]; exact Or.inr h
  have hS : va_S A s.heap s.heap [] := va_S.rf
  obtain ⟨Q, hQ⟩ : ∃ Q : State → Prop, Q = MQ below (va_Qi (fun (r : Int32) (u : Unit) => K r) (poW (dC, dI) A (fun (u : Unit) => [(a_m, .inr (7, [.int mkd, .int mrt, .int mri, .int mca, .int mpr, .int men, .ref a_mp, .ref a_me, .int mth, .int mrq, .ref a_mq, .long mtr, .ref a_mr, .ref a_mo, .int mos, .ref a_ml, .ref a_mt, .ref a_mf])), (a_mq, .inl (kA, 16, .inl mqF)), (a_mo, .inl (kA, 96, .inl moF))])) A) args s 0 0 A := ⟨_, rfl⟩
  rw [← hQ]
  have hP : va_P (dC, dI) vwCl [(a_m, .inr (7, [.int mkd, .int mrt, .int mri, .int mca, .int mpr, .int men, .ref a_mp, .ref a_me, .int mth, .int mrq, .ref a_mq, .long mtr, .ref a_mr, .ref a_mo, .int mos, .ref a_ml, .ref a_mt, .ref a_mf])), (a_mq, .inl (kA, 16, .inl mqF)), (a_mo, .inl (kA, 96, .inl moF))] s.heap := hP
  refine en_ok hargs (Nat.le_of_ble_eq_true rfl) (fun ls hl => ?_)
  have hl : lv_has ls 4 [(0, .ref a_m), (1, .int p1)] := hl
  have h := hg
  unfold g_X7_staysCost at h
  refine lv_iconst (v := (0 : Int32)) hx hb dX7_staysCost_0 (by decide +kernel) ?_
  refine lv_istore_n (lv' := [(2, .int (0 : Int32)), (0, .ref a_m), (1, .int p1)]) hx hb dX7_staysCost_1 rfl hl (by decide) rfl (fun ls hl => ?_)
  refine lv_iconst (v := (0 : Int32)) hx hb dX7_staysCost_2 (by decide +kernel) ?_
  refine lv_istore_n (lv' := [(3, .int (0 : Int32)), (2, .int (0 : Int32)), (0, .ref a_m), (1, .int p1)]) hx hb dX7_staysCost_3 rfl hl (by decide) rfl (fun ls hl => ?_)
  obtain ⟨J4, ⟨n4, h⟩, hz4, hs4⟩ := h
  have hL4 : ∀ (n4 : Nat) (v2_4 : Int32) (v3_4 : Int32), J4 n4 v2_4 v3_4 → ∀ (H : Heap) (locs : List Loc) (ls : Array Slot), va_P (dC, dI) vwCl [(a_m, .inr (7, [.int mkd, .int mrt, .int mri, .int mca, .int mpr, .int men, .ref a_mp, .ref a_me, .int mth, .int mrq, .ref a_mq, .long mtr, .ref a_mr, .ref a_mo, .int mos, .ref a_ml, .ref a_mt, .ref a_mf])), (a_mq, .inl (kA, 16, .inl mqF)), (a_mo, .inl (kA, 96, .inl moF))] H → va_D A [(a_m, .inr (7, [.int mkd, .int mrt, .int mri, .int mca, .int mpr, .int men, .ref a_mp, .ref a_me, .int mth, .int mrq, .ref a_mq, .long mtr, .ref a_mr, .ref a_mo, .int mos, .ref a_ml, .ref a_mt, .ref a_mf])), (a_mq, .inl (kA, 16, .inl mqF)), (a_mo, .inl (kA, 96, .inl moF))] → va_S A s.heap H locs → lv_has ls 4 [(0, .ref a_m), (1, .int p1), (2, .int v2_4), (3, .int v3_4)] → W p l e (headSpec wsX7_staysCost rmX7_staysCost).room s m args below meth c H locs 0 0 Q (F0 m 4 ls []) := by
    intro n4
    induction n4 with
    | zero => intro v2_4 v3_4 h; exact absurd h (hz4 v2_4 v3_4)
    | succ n4 ih4 =>
      intro v2_4 v3_4 h H locs ls hP hD hS hl
      replace h := hs4 n4 v2_4 v3_4 h
      refine lv_iload_n hx hb dX7_staysCost_4 rfl (lv_at hl 3 rfl) ?_
      refine lv_aload_n hx hb dX7_staysCost_5 rfl (lv_at hl 0 rfl) ?_
      refine va_get (D := (dC, dI)) (ci := 7) (v := .int mrq) (C := RX7) (T := TX7) (N := 18) hx hb hts (fun _ h => List.mem_cons_of_mem _ (List.mem_append_right _ h)) hown hK hP 0 rfl rfl 9 (by decide) (hts (.fieldLink RX7 50 "RentOrBuyModel" "requests" "I") (List.mem_cons_of_mem _ (List.mem_append_left _ (List.mem_of_getElem? (i := 0) rfl)))) (fun _ h9 => h9) rfl dX7_staysCost_6 ?_
      refine lv_icmp_ge (tgt := 34) hx hb dX7_staysCost_9 (by decide) (fun c9 => ?_) (fun c9 => ?_)
      · replace h := h.1 c9
        refine lv_iload_n hx hb dX7_staysCost_34 rfl (lv_at hl 2 rfl) ?_
        rw [hQ]
        exact rt_i () hx hb hr hlocks h hP hD hS dX7_staysCost_35
      · replace h := h.2 c9
        refine lv_iload_n hx hb dX7_staysCost_12 rfl (lv_at hl 2 rfl) ?_
        refine lv_aload_n hx hb dX7_staysCost_13 rfl (lv_at hl 0 rfl) ?_
        refine lv_iload_n hx hb dX7_staysCost_14 rfl (lv_at hl 1 rfl) ?_
        refine lv_aload_n hx hb dX7_staysCost_15 rfl (lv_at hl 0 rfl) ?_
        refine va_get (D := (dC, dI)) (ci := 7) (v := .ref a_mq) (C := RX7) (T := TX7) (N := 18) hx hb hts (fun _ h => List.mem_cons_of_mem _ (List.mem_append_right _ h)) hown hK hP 0 rfl rfl 10 (by decide) (hts (.fieldLink RX7 32 "RentOrBuyModel" "request" "[I") (List.mem_cons_of_mem _ (List.mem_append_left _ (List.mem_of_getElem? (i := 1) rfl)))) (fun _ h9 => h9) rfl dX7_staysCost_16 ?_
        refine lv_iload_n hx hb dX7_staysCost_19 rfl (lv_at hl 3 rfl) ?_
        obtain ⟨hi20, h⟩ := h
        refine va_iald hx hb hK hP 1 0 rfl rfl hi20 dX7_staysCost_20 ?_
        have hPc := hP.sub (ws' := [(a_m, .inr (7, [.int mkd, .int mrt, .int mri, .int mca, .int mpr, .int men, .ref a_mp, .ref a_me, .int mth, .int mrq, .ref a_mq, .long mtr, .ref a_mr, .ref a_mo, .int mos, .ref a_ml, .ref a_mt, .ref a_mf])), (a_mo, .inl (kA, 96, .inl moF))]) [0, 2] rfl
        have hDc := hD.sub (ws' := [(a_m, .inr (7, [.int mkd, .int mrt, .int mri, .int mca, .int mpr, .int men, .ref a_mp, .ref a_me, .int mth, .int mrq, .ref a_mq, .long mtr, .ref a_mr, .ref a_mo, .int mos, .ref a_ml, .ref a_mt, .ref a_mf])), (a_mo, .inl (kA, 96, .inl moF))]) [0, 2] (by decide) rfl
        refine fr_i (wr := [(a_mq, .inl (kA, 16, .inl mqF))]) (WN := fun (u21 : Unit) => [(a_m, .inr (7, [.int mkd, .int mrt, .int mri, .int mca, .int mpr, .int men, .ref a_mp, .ref a_me, .int mth, .int mrq, .ref a_mq, .long mtr, .ref a_mr, .ref a_mo, .int mos, .ref a_ml, .ref a_mt, .ref a_mf])), (a_mq, .inl (kA, 16, .inl mqF)), (a_mo, .inl (kA, 96, .inl moF))]) (va_runV (As := [.int p1, .int (mqF v3_4.toNatClampNeg)]) (rest := [.int v2_4]) ⟨hx, hb, hml, hown, hts⟩ (c_X7_placeIn l dC dI kA a_m a_mo a_mp a_me a_mq a_mr a_ml a_mt a_mf H.size mkd mrt mri mca mpr men mth mrq mtr mos moF p1 (mqF v3_4.toNatClampNeg) _ h) (cwV 2 hts gX7_staysCost_X7_placeIn rfl rfl rfl (by decide +kernel) ⟨Nat.le_of_ble_eq_true rfl, Nat.le_of_ble_eq_true rfl⟩) (prW.preV (ci := 7) (q0 := 0) hPc hDc hK hN rfl rfl) rfl rfl hl.1 rfl (lv_room (Nat.le_of_ble_eq_true rfl)) dX7_staysCost_21 ⟨Nat.le_of_ble_eq_true rfl, Nat.le_of_ble_eq_true rfl⟩) hP hD hS hA [0, 2] [1] rfl rfl (by decide) (by decide) [1, 0, 2] (by decide) (fun _ => rfl) (fun r21 u21 H locs h hP hD hS => ?_)
        have hP : va_P (dC, dI) vwCl [(a_m, .inr (7, [.int mkd, .int mrt, .int mri, .int mca, .int mpr, .int men, .ref a_mp, .ref a_me, .int mth, .int mrq, .ref a_mq, .long mtr, .ref a_mr, .ref a_mo, .int mos, .ref a_ml, .ref a_mt, .ref a_mf])), (a_mq, .inl (kA, 16, .inl mqF)), (a_mo, .inl (kA, 96, .inl moF))] H := hP
        have hD : va_D A [(a_m, .inr (7, [.int mkd, .int mrt, .int mri, .int mca, .int mpr, .int men, .ref a_mp, .ref a_me, .int mth, .int mrq, .ref a_mq, .long mtr, .ref a_mr, .ref a_mo, .int mos, .ref a_ml, .ref a_mt, .ref a_mf])), (a_mq, .inl (kA, 16, .inl mqF)), (a_mo, .inl (kA, 96, .inl moF))] := hD
        refine lv_iconst (v := (1 : Int32)) hx hb dX7_staysCost_24 (by decide +kernel) ?_
        refine lv_iadd hx hb dX7_staysCost_25 ?_
        refine lv_iadd hx hb dX7_staysCost_26 ?_
        refine lv_istore_n (lv' := [(2, .int (v2_4 + (r21 + (1 : Int32)))), (0, .ref a_m), (1, .int p1), (3, .int v3_4)]) hx hb dX7_staysCost_27 rfl hl (by decide) rfl (fun ls hl => ?_)
        refine lv_iinc (v := (v3_4 + (1 : Int32))) (lv' := [(3, .int (v3_4 + (1 : Int32))), (2, .int (v2_4 + (r21 + (1 : Int32)))), (0, .ref a_m), (1, .int p1)]) hx hb dX7_staysCost_28 hl (k := 3) rfl (by rfl) (by decide) rfl (fun ls hl => ?_)
        refine lv_goto (tgt := 4) hx hb dX7_staysCost_31 (by decide) ?_
        exact ih4 (v2_4 + (r21 + (1 : Int32))) (v3_4 + (1 : Int32)) h _ _ _ hP hD hS (lv_sub hl [2, 3, 1, 0] rfl)
  exact hL4 n4 (0 : Int32) (0 : Int32) h _ _ _ hP hD hS (lv_sub hl [2, 3, 1, 0] rfl)

