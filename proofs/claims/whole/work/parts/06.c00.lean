/-- RentOrBuy$Flat.bodiesAsked, kind 2 -/
def rmX1_bodiesAsked_k2 : Room := { frames := 0, cells := 0, slots := 0, locals := 0 }
set_option maxHeartbeats 4000000 in
set_option maxRecDepth 100000 in
theorem c_X1_bodiesAsked_k2 (l : Launch) (dC : Nat → ClassId) (dI : Nat → Nat → Nat) (kA : ClassId) (a_tk : Nat) (sz : Nat) (tkr : Int32) (tkd : Int32) (tkp : Int32) (tkc : Int32) (K : Int32 → Prop) (hg : g_X1_bodiesAsked_k2 tkr tkd tkp tkc K) : Met l yX1_bodiesAsked wsX1_bodiesAsked rmX1_bodiesAsked_k2 (va_Pc [.ref a_tk] (prW (dC, dI) kA sz [(a_tk, .inr (0, [.int tkr, .int tkd, .int tkp, .int tkc]))])) (va_Qi (fun (r : Int32) (u : Unit) => K r) (poW (dC, dI) (va_A [(a_tk, .inr (0, [.int tkr, .int tkd, .int tkp, .int tkc]))] sz) (fun (u : Unit) => [(a_tk, .inr (0, [.int tkr, .int tkd, .int tkp, .int tkc]))])) (va_A [(a_tk, .inr (0, [.int tkr, .int tkd, .int tkp, .int tkc]))] sz)) 0 0 (va_A [(a_tk, .inr (0, [.int tkr, .int tkd, .int tkp, .int tkc]))] sz) := by
  refine Met.ofW (cc := cX1_bodiesAsked) (maxL := 1) (ret := (some .int)) (by decide) rfl ?_
  intro p e s m args below meth c s₁ B hml hv
  obtain ⟨hargs, hsz, hP, hK, hD0, hN⟩ := hv
  have hx := B.exec
  have hb := B.bytes
  have hr := B.returns
  have hts := atoms_spec (ws := wsX1_bodiesAsked) B.pre
  have hown : s.vm.findClass RX1 = some m.cls := findClass_of_methodNamed B.named
  have hlocks := B.notSynchronized
  subst hsz
  have hD := hD0.self (sz := s.heap.size)
  generalize hAe : va_A [(a_tk, .inr (0, [.int tkr, .int tkd, .int tkp, .int tkc]))] s.heap.size = A at hD ⊢
  have hA : ∀ q : Nat, s.heap.size ≤ q → A q := fun q h => by rw [← hAe]; exact Or.inr h
  have hS : va_S A s.heap s.heap [] := va_S.rf
  obtain ⟨Q, hQ⟩ : ∃ Q : State → Prop, Q = MQ below (va_Qi (fun (r : Int32) (u : Unit) => K r) (poW (dC, dI) A (fun (u : Unit) => [(a_tk, .inr (0, [.int tkr, .int tkd, .int tkp, .int tkc]))])) A) args s 0 0 A := ⟨_, rfl⟩
  rw [← hQ]
  have hP : va_P (dC, dI) vwCl [(a_tk, .inr (0, [.int tkr, .int tkd, .int tkp, .int tkc]))] s.heap := hP
  refine en_ok hargs (Nat.le_of_ble_eq_true rfl) (fun ls hl => ?_)
  have hl : lv_has ls 1 [(0, .ref a_tk)] := hl
  have h := hg
  unfold g_X1_bodiesAsked_k2 at h
  refine lv_iconst (v := (1 : Int32)) hx hb dX1_bodiesAsked_0 (by decide +kernel) ?_
  rw [hQ]
  exact rt_i () hx hb hr hlocks h hP hD hS dX1_bodiesAsked_1

/-- RentOrBuy$Rising.bodiesAsked, kind 2 -/
def rmX4_bodiesAsked_k2 : Room := { frames := 1, cells := 0, slots := 0, locals := 20 }
set_option maxHeartbeats 4000000 in
set_option maxRecDepth 100000 in
theorem c_X4_bodiesAsked_k2 (l : Launch) (dC : Nat → ClassId) (dI : Nat → Nat → Nat) (kA : ClassId) (a_tk : Nat) (sz : Nat) (tkr : Int32) (tkd : Int32) (tkp : Int32) (tkc : Int32) (K : Int32 → Prop) (hg : g_X4_bodiesAsked_k2 tkr tkd tkp tkc K) : Met l yX4_bodiesAsked wsX4_bodiesAsked rmX4_bodiesAsked_k2 (va_Pc [.ref a_tk] (prW (dC, dI) kA sz [(a_tk, .inr (0, [.int tkr, .int tkd, .int tkp, .int tkc]))])) (va_Qi (fun (r : Int32) (u : Unit) => K r) (poW (dC, dI) (va_A [(a_tk, .inr (0, [.int tkr, .int tkd, .int tkp, .int tkc]))] sz) (fun (u : Unit) => [(a_tk, .inr (0, [.int tkr, .int tkd, .int tkp, .int tkc]))])) (va_A [(a_tk, .inr (0, [.int tkr, .int tkd, .int tkp, .int tkc]))] sz)) 0 0 (va_A [(a_tk, .inr (0, [.int tkr, .int tkd, .int tkp, .int tkc]))] sz) := by
  refine Met.ofW (cc := cX4_bodiesAsked) (maxL := 1) (ret := (some .int)) (by decide) rfl ?_
  intro p e s m args below meth c s₁ B hml hv
  obtain ⟨hargs, hsz, hP, hK, hD0, hN⟩ := hv
  have hx := B.exec
  have hb := B.bytes
  have hr := B.returns
  have hts := atoms_spec (ws := wsX4_bodiesAsked) B.pre
  have hown : s.vm.findClass RX4 = some m.cls := findClass_of_methodNamed B.named
  have hlocks := B.notSynchronized
  subst hsz
  have hD := hD0.self (sz := s.heap.size)
  generalize hAe : va_A [(a_tk, .inr (0, [.int tkr, .int tkd, .int tkp, .int tkc]))] s.heap.size = A at hD ⊢
  have hA : ∀ q : Nat, s.heap.size ≤ q → A q := fun q h => by rw [← hAe]; exact Or.inr h
  have hS : va_S A s.heap s.heap [] := va_S.rf
  obtain ⟨Q, hQ⟩ : ∃ Q : State → Prop, Q = MQ below (va_Qi (fun (r : Int32) (u : Unit) => K r) (poW (dC, dI) A (fun (u : Unit) => [(a_tk, .inr (0, [.int tkr, .int tkd, .int tkp, .int tkc]))])) A) args s 0 0 A := ⟨_, rfl⟩
  rw [← hQ]
  have hP : va_P (dC, dI) vwCl [(a_tk, .inr (0, [.int tkr, .int tkd, .int tkp, .int tkc]))] s.heap := hP
  refine en_ok hargs (Nat.le_of_ble_eq_true rfl) (fun ls hl => ?_)
  have hl : lv_has ls 1 [(0, .ref a_tk)] := hl
  have h := hg
  unfold g_X4_bodiesAsked_k2 at h
  refine lv_aload_n hx hb dX4_bodiesAsked_0 rfl (lv_at hl 0 rfl) ?_
  have hPc := hP.sub (ws' := [(a_tk, .inr (0, [.int tkr, .int tkd, .int tkp, .int tkc]))]) [0] rfl
  have hDc := hD.sub (ws' := [(a_tk, .inr (0, [.int tkr, .int tkd, .int tkp, .int tkc]))]) [0] (by decide) rfl
  refine fr_i (wr := []) (WN := fun (u1 : Unit) => [(a_tk, .inr (0, [.int tkr, .int tkd, .int tkp, .int tkc]))]) (va_runSU ((hK.1 0 _ rfl).2) (As := []) (rest := []) ⟨hx, hb, hml, hown, hts⟩ (c_X1_bodiesAsked_k2 l dC dI kA a_tk s.heap.size tkr tkd tkp tkc _ h) (va_cwSU 0 hts gX4_bodiesAsked_X1_bodiesAsked_s19 rfl rfl rfl (by decide +kernel) ⟨Nat.le_of_ble_eq_true rfl, Nat.le_of_ble_eq_true rfl⟩) (prW.preV (ci := 0) (q0 := 0) hPc hDc hK hN rfl rfl) rfl rfl hl.1 rfl (lv_room (Nat.le_of_ble_eq_true rfl)) dX4_bodiesAsked_1 ⟨Nat.le_of_ble_eq_true rfl, Nat.le_of_ble_eq_true rfl⟩) hP hD hS hA [0] [] rfl rfl (by decide) (by decide) [0] (by decide) (fun _ => rfl) (fun r1 u1 H locs h hP hD hS => ?_)
  have hP : va_P (dC, dI) vwCl [(a_tk, .inr (0, [.int tkr, .int tkd, .int tkp, .int tkc]))] H := hP
  have hD : va_D A [(a_tk, .inr (0, [.int tkr, .int tkd, .int tkp, .int tkc]))] := hD
  refine lv_bipush (v := (10 : Int32)) hx hb dX4_bodiesAsked_4 (by decide +kernel) ?_
  refine lv_iadd hx hb dX4_bodiesAsked_6 ?_
  rw [hQ]
  exact rt_i () hx hb hr hlocks h hP hD hS dX4_bodiesAsked_7

/-- RentOrBuy$Capped.bodiesAsked, kind 2 -/
def rmX0_bodiesAsked_k2 : Room := { frames := 2, cells := 0, slots := 0, locals := 40 }
set_option maxHeartbeats 4000000 in
set_option maxRecDepth 100000 in
theorem c_X0_bodiesAsked_k2 (l : Launch) (dC : Nat → ClassId) (dI : Nat → Nat → Nat) (kA : ClassId) (a_tk : Nat) (sz : Nat) (tkr : Int32) (tkd : Int32) (tkp : Int32) (tkc : Int32) (K : Int32 → Prop) (hg : g_X0_bodiesAsked_k2 tkr tkd tkp tkc K) : Met l yX0_bodiesAsked wsX0_bodiesAsked rmX0_bodiesAsked_k2 (va_Pc [.ref a_tk] (prW (dC, dI) kA sz [(a_tk, .inr (0, [.int tkr, .int tkd, .int tkp, .int tkc]))])) (va_Qi (fun (r : Int32) (u : Unit) => K r) (poW (dC, dI) (va_A [(a_tk, .inr (0, [.int tkr, .int tkd, .int tkp, .int tkc]))] sz) (fun (u : Unit) => [(a_tk, .inr (0, [.int tkr, .int tkd, .int tkp, .int tkc]))])) (va_A [(a_tk, .inr (0, [.int tkr, .int tkd, .int tkp, .int tkc]))] sz)) 0 0 (va_A [(a_tk, .inr (0, [.int tkr, .int tkd, .int tkp, .int tkc]))] sz) := by
  refine Met.ofW (cc := cX0_bodiesAsked) (maxL := 1) (ret := (some .int)) (by decide) rfl ?_
  intro p e s m args below meth c s₁ B hml hv
  obtain ⟨hargs, hsz, hP, hK, hD0, hN⟩ := hv
  have hx := B.exec
  have hb := B.bytes
  have hr := B.returns
  have hts := atoms_spec (ws := wsX0_bodiesAsked) B.pre
  have hown : s.vm.findClass RX0 = some m.cls := findClass_of_methodNamed B.named
  have hlocks := B.notSynchronized
  subst hsz
  have hD := hD0.self (sz := s.heap.size)
  generalize hAe : va_A [(a_tk, .inr (0, [.int tkr, .int tkd, .int tkp, .int tkc]))] s.heap.size = A at hD ⊢
  have hA : ∀ q : Nat, s.heap.size ≤ q → A q := fun q h => by rw [← hAe]; exact Or.inr h
  have hS : va_S A s.heap s.heap [] := va_S.rf
  obtain ⟨Q, hQ⟩ : ∃ Q : State → Prop, Q = MQ below (va_Qi (fun (r : Int32) (u : Unit) => K r) (poW (dC, dI) A (fun (u : Unit) => [(a_tk, .inr (0, [.int tkr, .int tkd, .int tkp, .int tkc]))])) A) args s 0 0 A := ⟨_, rfl⟩
  rw [← hQ]
  have hP : va_P (dC, dI) vwCl [(a_tk, .inr (0, [.int tkr, .int tkd, .int tkp, .int tkc]))] s.heap := hP
  refine en_ok hargs (Nat.le_of_ble_eq_true rfl) (fun ls hl => ?_)
  have hl : lv_has ls 1 [(0, .ref a_tk)] := hl
  have h := hg
  unfold g_X0_bodiesAsked_k2 at h
  refine lv_aload_n hx hb dX0_bodiesAsked_0 rfl (lv_at hl 0 rfl) ?_
  have hPc := hP.sub (ws' := [(a_tk, .inr (0, [.int tkr, .int tkd, .int tkp, .int tkc]))]) [0] rfl
  have hDc := hD.sub (ws' := [(a_tk, .inr (0, [.int tkr, .int tkd, .int tkp, .int tkc]))]) [0] (by decide) rfl
  refine fr_i (wr := []) (WN := fun (u1 : Unit) => [(a_tk, .inr (0, [.int tkr, .int tkd, .int tkp, .int tkc]))]) (va_runSU ((hK.1 0 _ rfl).2) (As := []) (rest := []) ⟨hx, hb, hml, hown, hts⟩ (c_X4_bodiesAsked_k2 l dC dI kA a_tk s.heap.size tkr tkd tkp tkc _ h) (va_cwSU 0 hts gX0_bodiesAsked_X4_bodiesAsked_s25 rfl rfl rfl (by decide +kernel) ⟨Nat.le_of_ble_eq_true rfl, Nat.le_of_ble_eq_true rfl⟩) (prW.preV (ci := 0) (q0 := 0) hPc hDc hK hN rfl rfl) rfl rfl hl.1 rfl (lv_room (Nat.le_of_ble_eq_true rfl)) dX0_bodiesAsked_1 ⟨Nat.le_of_ble_eq_true rfl, Nat.le_of_ble_eq_true rfl⟩) hP hD hS hA [0] [] rfl rfl (by decide) (by decide) [0] (by decide) (fun _ => rfl) (fun r1 u1 H locs h hP hD hS => ?_)
  have hP : va_P (dC, dI) vwCl [(a_tk, .inr (0, [.int tkr, .int tkd, .int tkp, .int tkc]))] H := hP
  have hD : va_D A [(a_tk, .inr (0, [.int tkr, .int tkd, .int tkp, .int tkc]))] := hD
  refine lv_bipush (v := (100 : Int32)) hx hb dX0_bodiesAsked_4 (by decide +kernel) ?_
  refine lv_iadd hx hb dX0_bodiesAsked_6 ?_
  rw [hQ]
  exact rt_i () hx hb hr hlocks h hP hD hS dX0_bodiesAsked_7

/-- RentOrBuy$Flat.<init>, kind 2 -/
def rmX1_init_k2 : Room := { frames := 1, cells := 0, slots := 0, locals := 12 }
set_option maxHeartbeats 4000000 in
set_option maxRecDepth 100000 in
theorem c_X1_init_k2 (l : Launch) (dC : Nat → ClassId) (dI : Nat → Nat → Nat) (kA : ClassId) (a_tk : Nat) (sz : Nat) (p1 : Int32) (p2 : Int32) (K : Int32 → Int32 → Prop) (hg : g_X1_init_k2 p1 p2 K) : Met l yX1_init wsX1_init rmX1_init_k2 (va_Pc [.ref a_tk, .int p1, .int p2] (prW (dC, dI) kA sz [(a_tk, .inr (0, [.int 0, .int 0, .int 0, .int 0]))])) (va_Qv (fun (u : Int32 × Int32) => K u.1 u.2) (poW (dC, dI) (va_A [(a_tk, .inr (0, [.int 0, .int 0, .int 0, .int 0]))] sz) (fun (u : Int32 × Int32) => [(a_tk, .inr (0, [.int 0, .int u.1, .int u.2, .int 0]))])) (va_A [(a_tk, .inr (0, [.int 0, .int 0, .int 0, .int 0]))] sz)) 0 0 (va_A [(a_tk, .inr (0, [.int 0, .int 0, .int 0, .int 0]))] sz) := by
  refine Met.ofW (cc := cX1_init) (maxL := 3) (ret := none) (by decide) rfl ?_
  intro p e s m args below meth c s₁ B hml hv
  obtain ⟨hargs, hsz, hP, hK, hD0, hN⟩ := hv
  have hx := B.exec
  have hb := B.bytes
  have hr := B.returns
  have hts := atoms_spec (ws := wsX1_init) B.pre
  have hown : s.vm.findClass RX1 = some m.cls := findClass_of_methodNamed B.named
  have hlocks := B.notSynchronized
  have hin : meth.name = "<init>" := (name_of_methodNamed B.named B.method).1
  subst hsz
  have hD := hD0.self (sz := s.heap.size)
  generalize hAe : va_A [(a_tk, .inr (0, [.int 0, .int 0, .int 0, .int 0]))] s.heap.size = A at hD ⊢
  have hA : ∀ q : Nat, s.heap.size ≤ q → A q := fun q h => by rw [← hAe]; exact Or.inr h
  have hS : va_S A s.heap s.heap [] := va_S.rf
  obtain ⟨Q, hQ⟩ : ∃ Q : State → Prop, Q = MQ below (va_Qv (fun (u : Int32 × Int32) => K u.1 u.2) (poW (dC, dI) A (fun (u : Int32 × Int32) => [(a_tk, .inr (0, [.int 0, .int u.1, .int u.2, .int 0]))])) A) args s 0 0 A := ⟨_, rfl⟩
  rw [← hQ]
  have hP : va_P (dC, dI) vwCl [(a_tk, .inr (0, [.int 0, .int 0, .int 0, .int 0]))] s.heap := hP
  refine en_ok hargs (Nat.le_of_ble_eq_true rfl) (fun ls hl => ?_)
  have hl : lv_has ls 3 [(0, .ref a_tk), (1, .int p1), (2, .int p2)] := hl
  have h := hg
  unfold g_X1_init_k2 at h
  refine lv_aload_n hx hb dX1_init_0 rfl (lv_at hl 0 rfl) ?_
  refine W.objInit hx hb hown (hts (.methodLink RX1 3 objectInit) (List.mem_cons_of_mem _ (List.mem_append_left _ (List.mem_append_left _ (List.mem_append_left _ (List.mem_of_getElem? (i := 0) rfl)))))) (hts (.instanceMethod objectInit) (List.mem_cons_of_mem _ (List.mem_append_left _ (List.mem_append_left _ (List.mem_append_left _ (List.mem_of_getElem? (i := 1) rfl)))))) (hts (.code objectInit ⟨#[0xb1]⟩ 1 none) (List.mem_cons_of_mem _ (List.mem_append_left _ (List.mem_append_left _ (List.mem_append_left _ (List.mem_of_getElem? (i := 2) rfl)))))) rfl (by rw [hml]; exact hl.1) rfl dX1_init_1 (Nat.le_of_ble_eq_true rfl) (Nat.le_of_ble_eq_true rfl) ?_
  refine W.eq (g2 := F0 m 4 ls []) rfl ?_
  refine lv_aload_n hx hb dX1_init_4 rfl (lv_at hl 0 rfl) ?_
  refine lv_iload_n hx hb dX1_init_5 rfl (lv_at hl 1 rfl) ?_
  refine va_putF (D := (dC, dI)) (ci := 0) (v := .int p1) (ty := .int) (C := RX0) (T := TX0) (N := 4) hx hb hts (fun _ h => List.mem_cons_of_mem _ (List.mem_append_left _ (List.mem_append_left _ (List.mem_append_right _ h)))) tyX0 tyX0_ok nmX0 hown hK hP hD hS 0 rfl rfl 1 (by decide) (hts (.fieldLink RX1 9 "RentOrBuy$Flat" "dayRent" "I") (List.mem_cons_of_mem _ (List.mem_append_left _ (List.mem_append_left _ (List.mem_append_left _ (List.mem_of_getElem? (i := 3) rfl)))))) (fun _ h9 => h9) rfl hin rfl (by decide +kernel) rfl rfl (Nat.le_of_ble_eq_true rfl) dX1_init_6 (fun H locs hP hD hS => ?_)
  have hP : va_P (dC, dI) vwCl [(a_tk, .inr (0, [.int 0, .int p1, .int 0, .int 0]))] H := hP
  have hD : va_D A [(a_tk, .inr (0, [.int 0, .int p1, .int 0, .int 0]))] := hD
  refine lv_aload_n hx hb dX1_init_9 rfl (lv_at hl 0 rfl) ?_
  refine lv_iload_n hx hb dX1_init_10 rfl (lv_at hl 2 rfl) ?_
  refine va_putF (D := (dC, dI)) (ci := 0) (v := .int p2) (ty := .int) (C := RX0) (T := TX0) (N := 4) hx hb hts (fun _ h => List.mem_cons_of_mem _ (List.mem_append_left _ (List.mem_append_left _ (List.mem_append_right _ h)))) tyX0 tyX0_ok nmX0 hown hK hP hD hS 0 rfl rfl 2 (by decide) (hts (.fieldLink RX1 15 "RentOrBuy$Flat" "price" "I") (List.mem_cons_of_mem _ (List.mem_append_left _ (List.mem_append_left _ (List.mem_append_left _ (List.mem_of_getElem? (i := 4) rfl)))))) (fun _ h9 => h9) rfl hin rfl (by decide +kernel) rfl rfl (Nat.le_of_ble_eq_true rfl) dX1_init_11 (fun H locs hP hD hS => ?_)
  have hP : va_P (dC, dI) vwCl [(a_tk, .inr (0, [.int 0, .int p1, .int p2, .int 0]))] H := hP
  have hD : va_D A [(a_tk, .inr (0, [.int 0, .int p1, .int p2, .int 0]))] := hD
  rw [hQ]
  exact rt_v (p1, p2) hx hb hr hlocks h hP hD hS dX1_init_14

/-- RentOrBuy$Rising.<init>, kind 2 -/
def rmX4_init_k2 : Room := { frames := 2, cells := 0, slots := 0, locals := 34 }
set_option maxHeartbeats 4000000 in
set_option maxRecDepth 100000 in
theorem c_X4_init_k2 (l : Launch) (dC : Nat → ClassId) (dI : Nat → Nat → Nat) (kA : ClassId) (a_tk : Nat) (sz : Nat) (p1 : Int32) (p2 : Int32) (p3 : Int32) (K : Int32 → Int32 → Int32 → Prop) (hg : g_X4_init_k2 p1 p2 p3 K) : Met l yX4_init wsX4_init rmX4_init_k2 (va_Pc [.ref a_tk, .int p1, .int p2, .int p3] (prW (dC, dI) kA sz [(a_tk, .inr (0, [.int 0, .int 0, .int 0, .int 0]))])) (va_Qv (fun (u : Int32 × Int32 × Int32) => K u.1 u.2.1 u.2.2) (poW (dC, dI) (va_A [(a_tk, .inr (0, [.int 0, .int 0, .int 0, .int 0]))] sz) (fun (u : Int32 × Int32 × Int32) => [(a_tk, .inr (0, [.int u.1, .int u.2.1, .int u.2.2, .int 0]))])) (va_A [(a_tk, .inr (0, [.int 0, .int 0, .int 0, .int 0]))] sz)) 0 0 (va_A [(a_tk, .inr (0, [.int 0, .int 0, .int 0, .int 0]))] sz) := by
  refine Met.ofW (cc := cX4_init) (maxL := 4) (ret := none) (by decide) rfl ?_
  intro p e s m args below meth c s₁ B hml hv
  obtain ⟨hargs, hsz, hP, hK, hD0, hN⟩ := hv
  have hx := B.exec
  have hb := B.bytes
  have hr := B.returns
  have hts := atoms_spec (ws := wsX4_init) B.pre
  have hown : s.vm.findClass RX4 = some m.cls := findClass_of_methodNamed B.named
  have hlocks := B.notSynchronized
  have hin : meth.name = "<init>" := (name_of_methodNamed B.named B.method).1
  subst hsz
  have hD := hD0.self (sz := s.heap.size)
  generalize hAe : va_A [(a_tk, .inr (0, [.int 0, .int 0, .int 0, .int 0]))] s.heap.size = A at hD ⊢
  have hA : ∀ q : Nat, s.heap.size ≤ q → A q := fun q h => by rw [← hAe]; exact Or.inr h
  have hS : va_S A s.heap s.heap [] := va_S.rf
  obtain ⟨Q, hQ⟩ : ∃ Q : State → Prop, Q = MQ below (va_Qv (fun (u : Int32 × Int32 × Int32) => K u.1 u.2.1 u.2.2) (poW (dC, dI) A (fun (u : Int32 × Int32 × Int32) => [(a_tk, .inr (0, [.int u.1, .int u.2.1, .int u.2.2, .int 0]))])) A) args s 0 0 A := ⟨_, rfl⟩
  rw [← hQ]
  have hP : va_P (dC, dI) vwCl [(a_tk, .inr (0, [.int 0, .int 0, .int 0, .int 0]))] s.heap := hP
  refine en_ok hargs (Nat.le_of_ble_eq_true rfl) (fun ls hl => ?_)
  have hl : lv_has ls 4 [(0, .ref a_tk), (1, .int p1), (2, .int p2), (3, .int p3)] := hl
  have h := hg
  unfold g_X4_init_k2 at h
  refine lv_aload_n hx hb dX4_init_0 rfl (lv_at hl 0 rfl) ?_
  refine lv_iload_n hx hb dX4_init_1 rfl (lv_at hl 1 rfl) ?_
  refine lv_iload_n hx hb dX4_init_2 rfl (lv_at hl 3 rfl) ?_
  have hPc := hP.sub (ws' := [(a_tk, .inr (0, [.int 0, .int 0, .int 0, .int 0]))]) [0] rfl
  have hDc := hD.sub (ws' := [(a_tk, .inr (0, [.int 0, .int 0, .int 0, .int 0]))]) [0] (by decide) rfl
  refine fr_v (wr := []) (WN := fun (u3 : Int32 × Int32) => [(a_tk, .inr (0, [.int 0, .int u3.1, .int u3.2, .int 0]))]) (va_runI (As := [.int p1, .int p3]) (rest := []) ⟨hx, hb, hml, hown, hts⟩ (c_X1_init_k2 l dC dI kA a_tk s.heap.size p1 p3 _ h) (cwI 2 hts gX4_init_X1_init rfl rfl rfl (hts (.initialized RX1) (List.mem_cons_of_mem _ (List.mem_append_left _ (List.mem_append_left _ (List.mem_append_left _ (List.mem_of_getElem? (i := 3) rfl)))))) (hts (.methodLink RX4 3 yX1_init) (List.mem_cons_of_mem _ (List.mem_append_left _ (List.mem_append_left _ (List.mem_append_left _ (List.mem_of_getElem? (i := 1) rfl)))))) (hts (.instanceMethod yX1_init) (List.mem_cons_of_mem _ (List.mem_append_left _ (List.mem_append_left _ (List.mem_append_left _ (List.mem_of_getElem? (i := 2) rfl)))))) rfl (by decide +kernel) ⟨Nat.le_of_ble_eq_true rfl, Nat.le_of_ble_eq_true rfl⟩) (prW.preS hPc hDc hK hN) rfl rfl hl.1 rfl (lv_room (Nat.le_of_ble_eq_true rfl)) dX4_init_3 ⟨Nat.le_of_ble_eq_true rfl, Nat.le_of_ble_eq_true rfl⟩) hP hD hS hA [0] [] rfl rfl (by decide) (by decide) [0] (by decide) (fun _ => rfl) (fun u3 H locs h hP hD hS => ?_)
  obtain ⟨y3_tkd', y3_tkp'⟩ := u3
  have hP : va_P (dC, dI) vwCl [(a_tk, .inr (0, [.int 0, .int y3_tkd', .int y3_tkp', .int 0]))] H := hP
  have hD : va_D A [(a_tk, .inr (0, [.int 0, .int y3_tkd', .int y3_tkp', .int 0]))] := hD
  refine lv_aload_n hx hb dX4_init_6 rfl (lv_at hl 0 rfl) ?_
  refine lv_iload_n hx hb dX4_init_7 rfl (lv_at hl 2 rfl) ?_
  refine va_putF (D := (dC, dI)) (ci := 0) (v := .int p2) (ty := .int) (C := RX0) (T := TX0) (N := 4) hx hb hts (fun _ h => List.mem_cons_of_mem _ (List.mem_append_left _ (List.mem_append_left _ (List.mem_append_right _ h)))) tyX0 tyX0_ok nmX0 hown hK hP hD hS 0 rfl rfl 0 (by decide) (hts (.fieldLink RX4 9 "RentOrBuy$Rising" "rise" "I") (List.mem_cons_of_mem _ (List.mem_append_left _ (List.mem_append_left _ (List.mem_append_left _ (List.mem_of_getElem? (i := 0) rfl)))))) (fun _ h9 => h9) rfl hin rfl (by decide +kernel) rfl rfl (Nat.le_of_ble_eq_true rfl) dX4_init_8 (fun H locs hP hD hS => ?_)
  have hP : va_P (dC, dI) vwCl [(a_tk, .inr (0, [.int p2, .int y3_tkd', .int y3_tkp', .int 0]))] H := hP
  have hD : va_D A [(a_tk, .inr (0, [.int p2, .int y3_tkd', .int y3_tkp', .int 0]))] := hD
  rw [hQ]
  exact rt_v (p2, y3_tkd', y3_tkp') hx hb hr hlocks h hP hD hS dX4_init_11

/-- RentOrBuy$Capped.<init>, kind 2 -/
def rmX0_init_k2 : Room := { frames := 3, cells := 0, slots := 0, locals := 57 }
set_option maxHeartbeats 4000000 in
set_option maxRecDepth 100000 in
theorem c_X0_init_k2 (l : Launch) (dC : Nat → ClassId) (dI : Nat → Nat → Nat) (kA : ClassId) (a_tk : Nat) (sz : Nat) (p1 : Int32) (p2 : Int32) (p3 : Int32) (p4 : Int32) (K : Int32 → Int32 → Int32 → Int32 → Prop) (hg : g_X0_init_k2 p1 p2 p3 p4 K) : Met l yX0_init wsX0_init rmX0_init_k2 (va_Pc [.ref a_tk, .int p1, .int p2, .int p3, .int p4] (prW (dC, dI) kA sz [(a_tk, .inr (0, [.int 0, .int 0, .int 0, .int 0]))])) (va_Qv (fun (u : Int32 × Int32 × Int32 × Int32) => K u.1 u.2.1 u.2.2.1 u.2.2.2) (poW (dC, dI) (va_A [(a_tk, .inr (0, [.int 0, .int 0, .int 0, .int 0]))] sz) (fun (u : Int32 × Int32 × Int32 × Int32) => [(a_tk, .inr (0, [.int u.1, .int u.2.1, .int u.2.2.1, .int u.2.2.2]))])) (va_A [(a_tk, .inr (0, [.int 0, .int 0, .int 0, .int 0]))] sz)) 0 0 (va_A [(a_tk, .inr (0, [.int 0, .int 0, .int 0, .int 0]))] sz) := by
  refine Met.ofW (cc := cX0_init) (maxL := 5) (ret := none) (by decide) rfl ?_
  intro p e s m args below meth c s₁ B hml hv
  obtain ⟨hargs, hsz, hP, hK, hD0, hN⟩ := hv
  have hx := B.exec
  have hb := B.bytes
  have hr := B.returns
  have hts := atoms_spec (ws := wsX0_init) B.pre
  have hown : s.vm.findClass RX0 = some m.cls := findClass_of_methodNamed B.named
  have hlocks := B.notSynchronized
  have hin : meth.name = "<init>" := (name_of_methodNamed B.named B.method).1
  subst hsz
  have hD := hD0.self (sz := s.heap.size)
  generalize hAe : va_A [(a_tk, .inr (0, [.int 0, .int 0, .int 0, .int 0]))] s.heap.size = A at hD ⊢
  have hA : ∀ q : Nat, s.heap.size ≤ q → A q := fun q h => by rw [← hAe]; exact Or.inr h
  have hS : va_S A s.heap s.heap [] := va_S.rf
  obtain ⟨Q, hQ⟩ : ∃ Q : State → Prop, Q = MQ below (va_Qv (fun (u : Int32 × Int32 × Int32 × Int32) => K u.1 u.2.1 u.2.2.1 u.2.2.2) (poW (dC, dI) A (fun (u : Int32 × Int32 × Int32 × Int32) => [(a_tk, .inr (0, [.int u.1, .int u.2.1, .int u.2.2.1, .int u.2.2.2]))])) A) args s 0 0 A := ⟨_, rfl⟩
  rw [← hQ]
  have hP : va_P (dC, dI) vwCl [(a_tk, .inr (0, [.int 0, .int 0, .int 0, .int 0]))] s.heap := hP
  refine en_ok hargs (Nat.le_of_ble_eq_true rfl) (fun ls hl => ?_)
  have hl : lv_has ls 5 [(0, .ref a_tk), (1, .int p1), (2, .int p2), (3, .int p3), (4, .int p4)] := hl
  have h := hg
  unfold g_X0_init_k2 at h
  refine lv_aload_n hx hb dX0_init_0 rfl (lv_at hl 0 rfl) ?_
  refine lv_iload_n hx hb dX0_init_1 rfl (lv_at hl 1 rfl) ?_
  refine lv_iload_n hx hb dX0_init_2 rfl (lv_at hl 2 rfl) ?_
  refine lv_iload hx hb dX0_init_3 (lv_at hl 4 rfl) ?_
  have hPc := hP.sub (ws' := [(a_tk, .inr (0, [.int 0, .int 0, .int 0, .int 0]))]) [0] rfl
  have hDc := hD.sub (ws' := [(a_tk, .inr (0, [.int 0, .int 0, .int 0, .int 0]))]) [0] (by decide) rfl
  refine fr_v (wr := []) (WN := fun (u5 : Int32 × Int32 × Int32) => [(a_tk, .inr (0, [.int u5.1, .int u5.2.1, .int u5.2.2, .int 0]))]) (va_runI (As := [.int p1, .int p2, .int p4]) (rest := []) ⟨hx, hb, hml, hown, hts⟩ (c_X4_init_k2 l dC dI kA a_tk s.heap.size p1 p2 p4 _ h) (cwI 3 hts gX0_init_X4_init rfl rfl rfl (hts (.initialized RX4) (List.mem_cons_of_mem _ (List.mem_append_left _ (List.mem_append_left _ (List.mem_append_left _ (List.mem_of_getElem? (i := 3) rfl)))))) (hts (.methodLink RX0 3 yX4_init) (List.mem_cons_of_mem _ (List.mem_append_left _ (List.mem_append_left _ (List.mem_append_left _ (List.mem_of_getElem? (i := 1) rfl)))))) (hts (.instanceMethod yX4_init) (List.mem_cons_of_mem _ (List.mem_append_left _ (List.mem_append_left _ (List.mem_append_left _ (List.mem_of_getElem? (i := 2) rfl)))))) rfl (by decide +kernel) ⟨Nat.le_of_ble_eq_true rfl, Nat.le_of_ble_eq_true rfl⟩) (prW.preS hPc hDc hK hN) rfl rfl hl.1 rfl (lv_room (Nat.le_of_ble_eq_true rfl)) dX0_init_5 ⟨Nat.le_of_ble_eq_true rfl, Nat.le_of_ble_eq_true rfl⟩) hP hD hS hA [0] [] rfl rfl (by decide) (by decide) [0] (by decide) (fun _ => rfl) (fun u5 H locs h hP hD hS => ?_)
  obtain ⟨y5_tkr', y5_tkd', y5_tkp'⟩ := u5
  have hP : va_P (dC, dI) vwCl [(a_tk, .inr (0, [.int y5_tkr', .int y5_tkd', .int y5_tkp', .int 0]))] H := hP
  have hD : va_D A [(a_tk, .inr (0, [.int y5_tkr', .int y5_tkd', .int y5_tkp', .int 0]))] := hD
  refine lv_aload_n hx hb dX0_init_8 rfl (lv_at hl 0 rfl) ?_
  refine lv_iload_n hx hb dX0_init_9 rfl (lv_at hl 3 rfl) ?_
  refine va_putF (D := (dC, dI)) (ci := 0) (v := .int p3) (ty := .int) (C := RX0) (T := TX0) (N := 4) hx hb hts (fun _ h => List.mem_cons_of_mem _ (List.mem_append_left _ (List.mem_append_left _ (List.mem_append_right _ h)))) tyX0 tyX0_ok nmX0 hown hK hP hD hS 0 rfl rfl 3 (by decide) (hts (.fieldLink RX0 9 "RentOrBuy$Capped" "cap" "I") (List.mem_cons_of_mem _ (List.mem_append_left _ (List.mem_append_left _ (List.mem_append_left _ (List.mem_of_getElem? (i := 0) rfl)))))) (fun _ h9 => h9) rfl hin rfl (by decide +kernel) rfl rfl (Nat.le_of_ble_eq_true rfl) dX0_init_10 (fun H locs hP hD hS => ?_)
  have hP : va_P (dC, dI) vwCl [(a_tk, .inr (0, [.int y5_tkr', .int y5_tkd', .int y5_tkp', .int p3]))] H := hP
  have hD : va_D A [(a_tk, .inr (0, [.int y5_tkr', .int y5_tkd', .int y5_tkp', .int p3]))] := hD
  rw [hQ]
  exact rt_v (y5_tkr', y5_tkd', y5_tkp', p3) hx hb hr hlocks h hP hD hS dX0_init_13

/-- RentOrBuy$Capped.kindNumber, kind 2 -/
def rmX0_kindNumber_k2 : Room := { frames := 0, cells := 0, slots := 0, locals := 0 }
set_option maxHeartbeats 4000000 in
set_option maxRecDepth 100000 in
theorem c_X0_kindNumber_k2 (l : Launch) (dC : Nat → ClassId) (dI : Nat → Nat → Nat) (kA : ClassId) (a_tk : Nat) (sz : Nat) (tkr : Int32) (tkd : Int32) (tkp : Int32) (tkc : Int32) (K : Int32 → Prop) (hg : g_X0_kindNumber_k2 tkr tkd tkp tkc K) : Met l yX0_kindNumber wsX0_kindNumber rmX0_kindNumber_k2 (va_Pc [.ref a_tk] (prW (dC, dI) kA sz [(a_tk, .inr (0, [.int tkr, .int tkd, .int tkp, .int tkc]))])) (va_Qi (fun (r : Int32) (u : Unit) => K r) (poW (dC, dI) (va_A [(a_tk, .inr (0, [.int tkr, .int tkd, .int tkp, .int tkc]))] sz) (fun (u : Unit) => [(a_tk, .inr (0, [.int tkr, .int tkd, .int tkp, .int tkc]))])) (va_A [(a_tk, .inr (0, [.int tkr, .int tkd, .int tkp, .int tkc]))] sz)) 0 0 (va_A [(a_tk, .inr (0, [.int tkr, .int tkd, .int tkp, .int tkc]))] sz) := by
  refine Met.ofW (cc := cX0_kindNumber) (maxL := 1) (ret := (some .int)) (by decide) rfl ?_
  intro p e s m args below meth c s₁ B hml hv
  obtain ⟨hargs, hsz, hP, hK, hD0, hN⟩ := hv
  have hx := B.exec
  have hb := B.bytes
  have hr := B.returns
  have hts := atoms_spec (ws := wsX0_kindNumber) B.pre
  have hown : s.vm.findClass RX0 = some m.cls := findClass_of_methodNamed B.named
  have hlocks := B.notSynchronized
  subst hsz
  have hD := hD0.self (sz := s.heap.size)
  generalize hAe : va_A [(a_tk, .inr (0, [.int tkr, .int tkd, .int tkp, .int tkc]))] s.heap.size = A at hD ⊢
  have hA : ∀ q : Nat, s.heap.size ≤ q → A q := fun q h => by rw [← hAe]; exact Or.inr h
  have hS : va_S A s.heap s.heap [] := va_S.rf
  obtain ⟨Q, hQ⟩ : ∃ Q : State → Prop, Q = MQ below (va_Qi (fun (r : Int32) (u : Unit) => K r) (poW (dC, dI) A (fun (u : Unit) => [(a_tk, .inr (0, [.int tkr, .int tkd, .int tkp, .int tkc]))])) A) args s 0 0 A := ⟨_, rfl⟩
  rw [← hQ]
  have hP : va_P (dC, dI) vwCl [(a_tk, .inr (0, [.int tkr, .int tkd, .int tkp, .int tkc]))] s.heap := hP
  refine en_ok hargs (Nat.le_of_ble_eq_true rfl) (fun ls hl => ?_)
  have hl : lv_has ls 1 [(0, .ref a_tk)] := hl
  have h := hg
  unfold g_X0_kindNumber_k2 at h
  refine lv_iconst (v := (2 : Int32)) hx hb dX0_kindNumber_0 (by decide +kernel) ?_
  rw [hQ]
  exact rt_i () hx hb hr hlocks h hP hD hS dX0_kindNumber_1

/-- RentOrBuy$Flat.rentOf, kind 2 -/
def rmX1_rentOf_k2 : Room := { frames := 0, cells := 0, slots := 0, locals := 0 }
set_option maxHeartbeats 4000000 in
set_option maxRecDepth 100000 in
theorem c_X1_rentOf_k2 (l : Launch) (dC : Nat → ClassId) (dI : Nat → Nat → Nat) (kA : ClassId) (a_tk : Nat) (sz : Nat) (tkr : Int32) (tkd : Int32) (tkp : Int32) (tkc : Int32) (p1 : Int32) (K : Int32 → Prop) (hg : g_X1_rentOf_k2 tkr tkd tkp tkc p1 K) : Met l yX1_rentOf wsX1_rentOf rmX1_rentOf_k2 (va_Pc [.ref a_tk, .int p1] (prW (dC, dI) kA sz [(a_tk, .inr (0, [.int tkr, .int tkd, .int tkp, .int tkc]))])) (va_Qi (fun (r : Int32) (u : Unit) => K r) (poW (dC, dI) (va_A [(a_tk, .inr (0, [.int tkr, .int tkd, .int tkp, .int tkc]))] sz) (fun (u : Unit) => [(a_tk, .inr (0, [.int tkr, .int tkd, .int tkp, .int tkc]))])) (va_A [(a_tk, .inr (0, [.int tkr, .int tkd, .int tkp, .int tkc]))] sz)) 0 0 (va_A [(a_tk, .inr (0, [.int tkr, .int tkd, .int tkp, .int tkc]))] sz) := by
  refine Met.ofW (cc := cX1_rentOf) (maxL := 2) (ret := (some .int)) (by decide) rfl ?_
  intro p e s m args below meth c s₁ B hml hv
  obtain ⟨hargs, hsz, hP, hK, hD0, hN⟩ := hv
  have hx := B.exec
  have hb := B.bytes
  have hr := B.returns
  have hts := atoms_spec (ws := wsX1_rentOf) B.pre
  have hown : s.vm.findClass RX1 = some m.cls := findClass_of_methodNamed B.named
  have hlocks := B.notSynchronized
  subst hsz
  have hD := hD0.self (sz := s.heap.size)
  generalize hAe : va_A [(a_tk, .inr (0, [.int tkr, .int tkd, .int tkp, .int tkc]))] s.heap.size = A at hD ⊢
  have hA : ∀ q : Nat, s.heap.size ≤ q → A q := fun q h => by rw [← hAe]; exact Or.inr h
  have hS : va_S A s.heap s.heap [] := va_S.rf
  obtain ⟨Q, hQ⟩ : ∃ Q : State → Prop, Q = MQ below (va_Qi (fun (r : Int32) (u : Unit) => K r) (poW (dC, dI) A (fun (u : Unit) => [(a_tk, .inr (0, [.int tkr, .int tkd, .int tkp, .int tkc]))])) A) args s 0 0 A := ⟨_, rfl⟩
  rw [← hQ]
  have hP : va_P (dC, dI) vwCl [(a_tk, .inr (0, [.int tkr, .int tkd, .int tkp, .int tkc]))] s.heap := hP
  refine en_ok hargs (Nat.le_of_ble_eq_true rfl) (fun ls hl => ?_)
  have hl : lv_has ls 2 [(0, .ref a_tk), (1, .int p1)] := hl
  have h := hg
  unfold g_X1_rentOf_k2 at h
  refine lv_aload_n hx hb dX1_rentOf_0 rfl (lv_at hl 0 rfl) ?_
  refine va_get (D := (dC, dI)) (ci := 0) (v := .int tkd) (C := RX0) (T := TX0) (N := 4) hx hb hts (fun _ h => List.mem_cons_of_mem _ (List.mem_append_left _ (List.mem_append_left _ (List.mem_append_right _ h)))) hown hK hP 0 rfl rfl 1 (by decide) (hts (.fieldLink RX1 9 "RentOrBuy$Flat" "dayRent" "I") (List.mem_cons_of_mem _ (List.mem_append_left _ (List.mem_append_left _ (List.mem_append_left _ (List.mem_of_getElem? (i := 0) rfl)))))) (fun _ h9 => h9) rfl dX1_rentOf_1 ?_
  rw [hQ]
  exact rt_i () hx hb hr hlocks h hP hD hS dX1_rentOf_4

/-- RentOrBuy$Rising.rentOf, kind 2 -/
def rmX4_rentOf_k2 : Room := { frames := 1, cells := 0, slots := 0, locals := 21 }
set_option maxHeartbeats 4000000 in
set_option maxRecDepth 100000 in
theorem c_X4_rentOf_k2 (l : Launch) (dC : Nat → ClassId) (dI : Nat → Nat → Nat) (kA : ClassId) (a_tk : Nat) (sz : Nat) (tkr : Int32) (tkd : Int32) (tkp : Int32) (tkc : Int32) (p1 : Int32) (K : Int32 → Prop) (hg : g_X4_rentOf_k2 tkr tkd tkp tkc p1 K) : Met l yX4_rentOf wsX4_rentOf rmX4_rentOf_k2 (va_Pc [.ref a_tk, .int p1] (prW (dC, dI) kA sz [(a_tk, .inr (0, [.int tkr, .int tkd, .int tkp, .int tkc]))])) (va_Qi (fun (r : Int32) (u : Unit) => K r) (poW (dC, dI) (va_A [(a_tk, .inr (0, [.int tkr, .int tkd, .int tkp, .int tkc]))] sz) (fun (u : Unit) => [(a_tk, .inr (0, [.int tkr, .int tkd, .int tkp, .int tkc]))])) (va_A [(a_tk, .inr (0, [.int tkr, .int tkd, .int tkp, .int tkc]))] sz)) 0 0 (va_A [(a_tk, .inr (0, [.int tkr, .int tkd, .int tkp, .int tkc]))] sz) := by
  refine Met.ofW (cc := cX4_rentOf) (maxL := 2) (ret := (some .int)) (by decide) rfl ?_
  intro p e s m args below meth c s₁ B hml hv
  obtain ⟨hargs, hsz, hP, hK, hD0, hN⟩ := hv
  have hx := B.exec
  have hb := B.bytes
  have hr := B.returns
  have hts := atoms_spec (ws := wsX4_rentOf) B.pre
  have hown : s.vm.findClass RX4 = some m.cls := findClass_of_methodNamed B.named
  have hlocks := B.notSynchronized
  subst hsz
  have hD := hD0.self (sz := s.heap.size)
  generalize hAe : va_A [(a_tk, .inr (0, [.int tkr, .int tkd, .int tkp, .int tkc]))] s.heap.size = A at hD ⊢
  have hA : ∀ q : Nat, s.heap.size ≤ q → A q := fun q h => by rw [← hAe]; exact Or.inr h
  have hS : va_S A s.heap s.heap [] := va_S.rf
  obtain ⟨Q, hQ⟩ : ∃ Q : State → Prop, Q = MQ below (va_Qi (fun (r : Int32) (u : Unit) => K r) (poW (dC, dI) A (fun (u : Unit) => [(a_tk, .inr (0, [.int tkr, .int tkd, .int tkp, .int tkc]))])) A) args s 0 0 A := ⟨_, rfl⟩
  rw [← hQ]
  have hP : va_P (dC, dI) vwCl [(a_tk, .inr (0, [.int tkr, .int tkd, .int tkp, .int tkc]))] s.heap := hP
  refine en_ok hargs (Nat.le_of_ble_eq_true rfl) (fun ls hl => ?_)
  have hl : lv_has ls 2 [(0, .ref a_tk), (1, .int p1)] := hl
  have h := hg
  unfold g_X4_rentOf_k2 at h
  refine lv_aload_n hx hb dX4_rentOf_0 rfl (lv_at hl 0 rfl) ?_
  refine lv_iload_n hx hb dX4_rentOf_1 rfl (lv_at hl 1 rfl) ?_
  have hPc := hP.sub (ws' := [(a_tk, .inr (0, [.int tkr, .int tkd, .int tkp, .int tkc]))]) [0] rfl
  have hDc := hD.sub (ws' := [(a_tk, .inr (0, [.int tkr, .int tkd, .int tkp, .int tkc]))]) [0] (by decide) rfl
  refine fr_i (wr := []) (WN := fun (u2 : Unit) => [(a_tk, .inr (0, [.int tkr, .int tkd, .int tkp, .int tkc]))]) (va_runSU ((hK.1 0 _ rfl).2) (As := [.int p1]) (rest := []) ⟨hx, hb, hml, hown, hts⟩ (c_X1_rentOf_k2 l dC dI kA a_tk s.heap.size tkr tkd tkp tkc p1 _ h) (va_cwSU 1 hts gX4_rentOf_X1_rentOf_s15 rfl rfl rfl (by decide +kernel) ⟨Nat.le_of_ble_eq_true rfl, Nat.le_of_ble_eq_true rfl⟩) (prW.preV (ci := 0) (q0 := 0) hPc hDc hK hN rfl rfl) rfl rfl hl.1 rfl (lv_room (Nat.le_of_ble_eq_true rfl)) dX4_rentOf_2 ⟨Nat.le_of_ble_eq_true rfl, Nat.le_of_ble_eq_true rfl⟩) hP hD hS hA [0] [] rfl rfl (by decide) (by decide) [0] (by decide) (fun _ => rfl) (fun r2 u2 H locs h hP hD hS => ?_)
  have hP : va_P (dC, dI) vwCl [(a_tk, .inr (0, [.int tkr, .int tkd, .int tkp, .int tkc]))] H := hP
  have hD : va_D A [(a_tk, .inr (0, [.int tkr, .int tkd, .int tkp, .int tkc]))] := hD
  refine lv_aload_n hx hb dX4_rentOf_5 rfl (lv_at hl 0 rfl) ?_
  refine va_get (D := (dC, dI)) (ci := 0) (v := .int tkr) (C := RX0) (T := TX0) (N := 4) hx hb hts (fun _ h => List.mem_cons_of_mem _ (List.mem_append_left _ (List.mem_append_left _ (List.mem_append_right _ h)))) hown hK hP 0 rfl rfl 0 (by decide) (hts (.fieldLink RX4 9 "RentOrBuy$Rising" "rise" "I") (List.mem_cons_of_mem _ (List.mem_append_left _ (List.mem_append_left _ (List.mem_append_left _ (List.mem_of_getElem? (i := 0) rfl)))))) (fun _ h9 => h9) rfl dX4_rentOf_6 ?_
  refine lv_iload_n hx hb dX4_rentOf_9 rfl (lv_at hl 1 rfl) ?_
  refine lv_iconst (v := (1 : Int32)) hx hb dX4_rentOf_10 (by decide +kernel) ?_
  refine lv_isub hx hb dX4_rentOf_11 ?_
  refine lv_imul hx hb dX4_rentOf_12 ?_
  refine lv_iadd hx hb dX4_rentOf_13 ?_
  rw [hQ]
  exact rt_i () hx hb hr hlocks h hP hD hS dX4_rentOf_14

/-- RentOrBuy$Capped.rentOf, kind 2 -/
def rmX0_rentOf_k2 : Room := { frames := 2, cells := 0, slots := 0, locals := 42 }
set_option maxHeartbeats 4000000 in
set_option maxRecDepth 100000 in
theorem c_X0_rentOf_k2 (l : Launch) (dC : Nat → ClassId) (dI : Nat → Nat → Nat) (kA : ClassId) (a_tk : Nat) (sz : Nat) (tkr : Int32) (tkd : Int32) (tkp : Int32) (tkc : Int32) (p1 : Int32) (K : Int32 → Prop) (hg : g_X0_rentOf_k2 tkr tkd tkp tkc p1 K) : Met l yX0_rentOf wsX0_rentOf rmX0_rentOf_k2 (va_Pc [.ref a_tk, .int p1] (prW (dC, dI) kA sz [(a_tk, .inr (0, [.int tkr, .int tkd, .int tkp, .int tkc]))])) (va_Qi (fun (r : Int32) (u : Unit) => K r) (poW (dC, dI) (va_A [(a_tk, .inr (0, [.int tkr, .int tkd, .int tkp, .int tkc]))] sz) (fun (u : Unit) => [(a_tk, .inr (0, [.int tkr, .int tkd, .int tkp, .int tkc]))])) (va_A [(a_tk, .inr (0, [.int tkr, .int tkd, .int tkp, .int tkc]))] sz)) 0 0 (va_A [(a_tk, .inr (0, [.int tkr, .int tkd, .int tkp, .int tkc]))] sz) := by
  refine Met.ofW (cc := cX0_rentOf) (maxL := 2) (ret := (some .int)) (by decide) rfl ?_
  intro p e s m args below meth c s₁ B hml hv
  obtain ⟨hargs, hsz, hP, hK, hD0, hN⟩ := hv
  have hx := B.exec
  have hb := B.bytes
  have hr := B.returns
  have hts := atoms_spec (ws := wsX0_rentOf) B.pre
  have hown : s.vm.findClass RX0 = some m.cls := findClass_of_methodNamed B.named
  have hlocks := B.notSynchronized
  subst hsz
  have hD := hD0.self (sz := s.heap.size)
  generalize hAe : va_A [(a_tk, .inr (0, [.int tkr, .int tkd, .int tkp, .int tkc]))] s.heap.size = A at hD ⊢
  have hA : ∀ q : Nat, s.heap.size ≤ q → A q := fun q h => by rw [← hAe]; exact Or.inr h
  have hS : va_S A s.heap s.heap [] := va_S.rf
  obtain ⟨Q, hQ⟩ : ∃ Q : State → Prop, Q = MQ below (va_Qi (fun (r : Int32) (u : Unit) => K r) (poW (dC, dI) A (fun (u : Unit) => [(a_tk, .inr (0, [.int tkr, .int tkd, .int tkp, .int tkc]))])) A) args s 0 0 A := ⟨_, rfl⟩
  rw [← hQ]
  have hP : va_P (dC, dI) vwCl [(a_tk, .inr (0, [.int tkr, .int tkd, .int tkp, .int tkc]))] s.heap := hP
  refine en_ok hargs (Nat.le_of_ble_eq_true rfl) (fun ls hl => ?_)
  have hl : lv_has ls 2 [(0, .ref a_tk), (1, .int p1)] := hl
  have h := hg
  unfold g_X0_rentOf_k2 at h
  refine lv_aload_n hx hb dX0_rentOf_0 rfl (lv_at hl 0 rfl) ?_
  refine lv_iload_n hx hb dX0_rentOf_1 rfl (lv_at hl 1 rfl) ?_
  have hPc := hP.sub (ws' := [(a_tk, .inr (0, [.int tkr, .int tkd, .int tkp, .int tkc]))]) [0] rfl
  have hDc := hD.sub (ws' := [(a_tk, .inr (0, [.int tkr, .int tkd, .int tkp, .int tkc]))]) [0] (by decide) rfl
  refine fr_i (wr := []) (WN := fun (u2 : Unit) => [(a_tk, .inr (0, [.int tkr, .int tkd, .int tkp, .int tkc]))]) (va_runSU ((hK.1 0 _ rfl).2) (As := [.int p1]) (rest := []) ⟨hx, hb, hml, hown, hts⟩ (c_X4_rentOf_k2 l dC dI kA a_tk s.heap.size tkr tkd tkp tkc p1 _ h) (va_cwSU 1 hts gX0_rentOf_X4_rentOf_s15 rfl rfl rfl (by decide +kernel) ⟨Nat.le_of_ble_eq_true rfl, Nat.le_of_ble_eq_true rfl⟩) (prW.preV (ci := 0) (q0 := 0) hPc hDc hK hN rfl rfl) rfl rfl hl.1 rfl (lv_room (Nat.le_of_ble_eq_true rfl)) dX0_rentOf_2 ⟨Nat.le_of_ble_eq_true rfl, Nat.le_of_ble_eq_true rfl⟩) hP hD hS hA [0] [] rfl rfl (by decide) (by decide) [0] (by decide) (fun _ => rfl) (fun r2 u2 H locs h hP hD hS => ?_)
  have hP : va_P (dC, dI) vwCl [(a_tk, .inr (0, [.int tkr, .int tkd, .int tkp, .int tkc]))] H := hP
  have hD : va_D A [(a_tk, .inr (0, [.int tkr, .int tkd, .int tkp, .int tkc]))] := hD
  refine lv_aload_n hx hb dX0_rentOf_5 rfl (lv_at hl 0 rfl) ?_
  refine va_get (D := (dC, dI)) (ci := 0) (v := .int tkc) (C := RX0) (T := TX0) (N := 4) hx hb hts (fun _ h => List.mem_cons_of_mem _ (List.mem_append_left _ (List.mem_append_left _ (List.mem_append_right _ h)))) hown hK hP 0 rfl rfl 3 (by decide) (hts (.fieldLink RX0 9 "RentOrBuy$Capped" "cap" "I") (List.mem_cons_of_mem _ (List.mem_append_left _ (List.mem_append_left _ (List.mem_append_left _ (List.mem_of_getElem? (i := 0) rfl)))))) (fun _ h9 => h9) rfl dX0_rentOf_6 ?_
  refine va_mmin hx hb (by rw [hml]; exact hl.1.symm) hown (hts (.methodLink RX0 19 Lib.Math.min.name) (List.mem_cons_of_mem _ (List.mem_append_left _ (List.mem_append_left _ (List.mem_append_left _ (List.mem_of_getElem? (i := 1) rfl)))))) (hts (.static Lib.Math.min.name) (List.mem_cons_of_mem _ (List.mem_append_left _ (List.mem_append_left _ (List.mem_append_left _ (List.mem_of_getElem? (i := 2) rfl)))))) (hts (.initialized "java/lang/Math") (List.mem_cons_of_mem _ (List.mem_append_left _ (List.mem_append_left _ (List.mem_append_left _ (List.mem_of_getElem? (i := 3) rfl)))))) (hts (.code Lib.Math.min.name Lib.Math.min.code 2 (some .int)) (List.mem_cons_of_mem _ (List.mem_append_left _ (List.mem_append_left _ (List.mem_append_left _ (List.mem_of_getElem? (i := 4) rfl)))))) (Nat.le_of_ble_eq_true rfl) (Nat.le_of_ble_eq_true rfl) (Nat.le_of_ble_eq_true rfl) (Nat.le_of_ble_eq_true rfl) dX0_rentOf_9 ?_
  rw [hQ]
  exact rt_i () hx hb hr hlocks h hP hD hS dX0_rentOf_12

/-- RentOrBuy$Flat.bodiesAsked, kind 0 -/
def rmX1_bodiesAsked_k0 : Room := { frames := 0, cells := 0, slots := 0, locals := 0 }
set_option maxHeartbeats 4000000 in
set_option maxRecDepth 100000 in
theorem c_X1_bodiesAsked_k0 (l : Launch) (dC : Nat → ClassId) (dI : Nat → Nat → Nat) (kA : ClassId) (a_tk : Nat) (sz : Nat) (tkd : Int32) (tkp : Int32) (K : Int32 → Prop) (hg : g_X1_bodiesAsked_k0 tkd tkp K) : Met l yX1_bodiesAsked wsX1_bodiesAsked rmX1_bodiesAsked_k0 (va_Pc [.ref a_tk] (prW (dC, dI) kA sz [(a_tk, .inr (1, [.int tkd, .int tkp]))])) (va_Qi (fun (r : Int32) (u : Unit) => K r) (poW (dC, dI) (va_A [(a_tk, .inr (1, [.int tkd, .int tkp]))] sz) (fun (u : Unit) => [(a_tk, .inr (1, [.int tkd, .int tkp]))])) (va_A [(a_tk, .inr (1, [.int tkd, .int tkp]))] sz)) 0 0 (va_A [(a_tk, .inr (1, [.int tkd, .int tkp]))] sz) := by
  refine Met.ofW (cc := cX1_bodiesAsked) (maxL := 1) (ret := (some .int)) (by decide) rfl ?_
  intro p e s m args below meth c s₁ B hml hv
  obtain ⟨hargs, hsz, hP, hK, hD0, hN⟩ := hv
  have hx := B.exec
  have hb := B.bytes
  have hr := B.returns
  have hts := atoms_spec (ws := wsX1_bodiesAsked) B.pre
  have hown : s.vm.findClass RX1 = some m.cls := findClass_of_methodNamed B.named
  have hlocks := B.notSynchronized
  subst hsz
  have hD := hD0.self (sz := s.heap.size)
  generalize hAe : va_A [(a_tk, .inr (1, [.int tkd, .int tkp]))] s.heap.size = A at hD ⊢
  have hA : ∀ q : Nat, s.heap.size ≤ q → A q := fun q h => by rw [← hAe]; exact Or.inr h
  have hS : va_S A s.heap s.heap [] := va_S.rf
  obtain ⟨Q, hQ⟩ : ∃ Q : State → Prop, Q = MQ below (va_Qi (fun (r : Int32) (u : Unit) => K r) (poW (dC, dI) A (fun (u : Unit) => [(a_tk, .inr (1, [.int tkd, .int tkp]))])) A) args s 0 0 A := ⟨_, rfl⟩
  rw [← hQ]
  have hP : va_P (dC, dI) vwCl [(a_tk, .inr (1, [.int tkd, .int tkp]))] s.heap := hP
  refine en_ok hargs (Nat.le_of_ble_eq_true rfl) (fun ls hl => ?_)
  have hl : lv_has ls 1 [(0, .ref a_tk)] := hl
  have h := hg
  unfold g_X1_bodiesAsked_k0 at h
  refine lv_iconst (v := (1 : Int32)) hx hb dX1_bodiesAsked_0 (by decide +kernel) ?_
  rw [hQ]
  exact rt_i () hx hb hr hlocks h hP hD hS dX1_bodiesAsked_1

/-- RentOrBuy$Flat.bodiesAsked, kind 1 -/
def rmX1_bodiesAsked_k1 : Room := { frames := 0, cells := 0, slots := 0, locals := 0 }
set_option maxHeartbeats 4000000 in
set_option maxRecDepth 100000 in
theorem c_X1_bodiesAsked_k1 (l : Launch) (dC : Nat → ClassId) (dI : Nat → Nat → Nat) (kA : ClassId) (a_tk : Nat) (sz : Nat) (tkd : Int32) (tkp : Int32) (tkr : Int32) (K : Int32 → Prop) (hg : g_X1_bodiesAsked_k1 tkd tkp tkr K) : Met l yX1_bodiesAsked wsX1_bodiesAsked rmX1_bodiesAsked_k1 (va_Pc [.ref a_tk] (prW (dC, dI) kA sz [(a_tk, .inr (4, [.int tkd, .int tkp, .int tkr]))])) (va_Qi (fun (r : Int32) (u : Unit) => K r) (poW (dC, dI) (va_A [(a_tk, .inr (4, [.int tkd, .int tkp, .int tkr]))] sz) (fun (u : Unit) => [(a_tk, .inr (4, [.int tkd, .int tkp, .int tkr]))])) (va_A [(a_tk, .inr (4, [.int tkd, .int tkp, .int tkr]))] sz)) 0 0 (va_A [(a_tk, .inr (4, [.int tkd, .int tkp, .int tkr]))] sz) := by
  refine Met.ofW (cc := cX1_bodiesAsked) (maxL := 1) (ret := (some .int)) (by decide) rfl ?_
  intro p e s m args below meth c s₁ B hml hv
  obtain ⟨hargs, hsz, hP, hK, hD0, hN⟩ := hv
  have hx := B.exec
  have hb := B.bytes
  have hr := B.returns
  have hts := atoms_spec (ws := wsX1_bodiesAsked) B.pre
  have hown : s.vm.findClass RX1 = some m.cls := findClass_of_methodNamed B.named
  have hlocks := B.notSynchronized
  subst hsz
  have hD := hD0.self (sz := s.heap.size)
  generalize hAe : va_A [(a_tk, .inr (4, [.int tkd, .int tkp, .int tkr]))] s.heap.size = A at hD ⊢
  have hA : ∀ q : Nat, s.heap.size ≤ q → A q := fun q h => by rw [← hAe]; exact Or.inr h
  have hS : va_S A s.heap s.heap [] := va_S.rf
  obtain ⟨Q, hQ⟩ : ∃ Q : State → Prop, Q = MQ below (va_Qi (fun (r : Int32) (u : Unit) => K r) (poW (dC, dI) A (fun (u : Unit) => [(a_tk, .inr (4, [.int tkd, .int tkp, .int tkr]))])) A) args s 0 0 A := ⟨_, rfl⟩
  rw [← hQ]
  have hP : va_P (dC, dI) vwCl [(a_tk, .inr (4, [.int tkd, .int tkp, .int tkr]))] s.heap := hP
  refine en_ok hargs (Nat.le_of_ble_eq_true rfl) (fun ls hl => ?_)
  have hl : lv_has ls 1 [(0, .ref a_tk)] := hl
  have h := hg
  unfold g_X1_bodiesAsked_k1 at h
  refine lv_iconst (v := (1 : Int32)) hx hb dX1_bodiesAsked_0 (by decide +kernel) ?_
  rw [hQ]
  exact rt_i () hx hb hr hlocks h hP hD hS dX1_bodiesAsked_1

/-- RentOrBuy$Flat.<init>, kind 0 -/
def rmX1_init_k0 : Room := { frames := 1, cells := 0, slots := 0, locals := 12 }
set_option maxHeartbeats 4000000 in
set_option maxRecDepth 100000 in
theorem c_X1_init_k0 (l : Launch) (dC : Nat → ClassId) (dI : Nat → Nat → Nat) (kA : ClassId) (a_tk : Nat) (sz : Nat) (p1 : Int32) (p2 : Int32) (K : Int32 → Int32 → Prop) (hg : g_X1_init_k0 p1 p2 K) : Met l yX1_init wsX1_init rmX1_init_k0 (va_Pc [.ref a_tk, .int p1, .int p2] (prW (dC, dI) kA sz [(a_tk, .inr (1, [.int 0, .int 0]))])) (va_Qv (fun (u : Int32 × Int32) => K u.1 u.2) (poW (dC, dI) (va_A [(a_tk, .inr (1, [.int 0, .int 0]))] sz) (fun (u : Int32 × Int32) => [(a_tk, .inr (1, [.int u.1, .int u.2]))])) (va_A [(a_tk, .inr (1, [.int 0, .int 0]))] sz)) 0 0 (va_A [(a_tk, .inr (1, [.int 0, .int 0]))] sz) := by
  refine Met.ofW (cc := cX1_init) (maxL := 3) (ret := none) (by decide) rfl ?_
  intro p e s m args below meth c s₁ B hml hv
  obtain ⟨hargs, hsz, hP, hK, hD0, hN⟩ := hv
  have hx := B.exec
  have hb := B.bytes
  have hr := B.returns
  have hts := atoms_spec (ws := wsX1_init) B.pre
  have hown : s.vm.findClass RX1 = some m.cls := findClass_of_methodNamed B.named
  have hlocks := B.notSynchronized
  have hin : meth.name = "<init>" := (name_of_methodNamed B.named B.method).1
  subst hsz
  have hD := hD0.self (sz := s.heap.size)
  generalize hAe : va_A [(a_tk, .inr (1, [.int 0, .int 0]))] s.heap.size = A at hD ⊢
  have hA : ∀ q : Nat, s.heap.size ≤ q → A q := fun q h => by rw [← hAe]; exact Or.inr h
  have hS : va_S A s.heap s.heap [] := va_S.rf
  obtain ⟨Q, hQ⟩ : ∃ Q : State → Prop, Q = MQ below (va_Qv (fun (u : Int32 × Int32) => K u.1 u.2) (poW (dC, dI) A (fun (u : Int32 × Int32) => [(a_tk, .inr (1, [.int u.1, .int u.2]))])) A) args s 0 0 A := ⟨_, rfl⟩
  rw [← hQ]
  have hP : va_P (dC, dI) vwCl [(a_tk, .inr (1, [.int 0, .int 0]))] s.heap := hP
  refine en_ok hargs (Nat.le_of_ble_eq_true rfl) (fun ls hl => ?_)
  have hl : lv_has ls 3 [(0, .ref a_tk), (1, .int p1), (2, .int p2)] := hl
  have h := hg
  unfold g_X1_init_k0 at h
  refine lv_aload_n hx hb dX1_init_0 rfl (lv_at hl 0 rfl) ?_
  refine W.objInit hx hb hown (hts (.methodLink RX1 3 objectInit) (List.mem_cons_of_mem _ (List.mem_append_left _ (List.mem_append_left _ (List.mem_append_left _ (List.mem_of_getElem? (i := 0) rfl)))))) (hts (.instanceMethod objectInit) (List.mem_cons_of_mem _ (List.mem_append_left _ (List.mem_append_left _ (List.mem_append_left _ (List.mem_of_getElem? (i := 1) rfl)))))) (hts (.code objectInit ⟨#[0xb1]⟩ 1 none) (List.mem_cons_of_mem _ (List.mem_append_left _ (List.mem_append_left _ (List.mem_append_left _ (List.mem_of_getElem? (i := 2) rfl)))))) rfl (by rw [hml]; exact hl.1) rfl dX1_init_1 (Nat.le_of_ble_eq_true rfl) (Nat.le_of_ble_eq_true rfl) ?_
  refine W.eq (g2 := F0 m 4 ls []) rfl ?_
  refine lv_aload_n hx hb dX1_init_4 rfl (lv_at hl 0 rfl) ?_
  refine lv_iload_n hx hb dX1_init_5 rfl (lv_at hl 1 rfl) ?_
  refine va_putF (D := (dC, dI)) (ci := 1) (v := .int p1) (ty := .int) (C := RX1) (T := TX1) (N := 2) hx hb hts (fun _ h => List.mem_cons_of_mem _ (List.mem_append_left _ (List.mem_append_right _ h))) tyX1 tyX1_ok nmX1 hown hK hP hD hS 0 rfl rfl 0 (by decide) (hts (.fieldLink RX1 9 "RentOrBuy$Flat" "dayRent" "I") (List.mem_cons_of_mem _ (List.mem_append_left _ (List.mem_append_left _ (List.mem_append_left _ (List.mem_of_getElem? (i := 3) rfl)))))) (fun _ h9 => h9) rfl hin rfl (by decide +kernel) rfl rfl (Nat.le_of_ble_eq_true rfl) dX1_init_6 (fun H locs hP hD hS => ?_)
  have hP : va_P (dC, dI) vwCl [(a_tk, .inr (1, [.int p1, .int 0]))] H := hP
  have hD : va_D A [(a_tk, .inr (1, [.int p1, .int 0]))] := hD
  refine lv_aload_n hx hb dX1_init_9 rfl (lv_at hl 0 rfl) ?_
  refine lv_iload_n hx hb dX1_init_10 rfl (lv_at hl 2 rfl) ?_
  refine va_putF (D := (dC, dI)) (ci := 1) (v := .int p2) (ty := .int) (C := RX1) (T := TX1) (N := 2) hx hb hts (fun _ h => List.mem_cons_of_mem _ (List.mem_append_left _ (List.mem_append_right _ h))) tyX1 tyX1_ok nmX1 hown hK hP hD hS 0 rfl rfl 1 (by decide) (hts (.fieldLink RX1 15 "RentOrBuy$Flat" "price" "I") (List.mem_cons_of_mem _ (List.mem_append_left _ (List.mem_append_left _ (List.mem_append_left _ (List.mem_of_getElem? (i := 4) rfl)))))) (fun _ h9 => h9) rfl hin rfl (by decide +kernel) rfl rfl (Nat.le_of_ble_eq_true rfl) dX1_init_11 (fun H locs hP hD hS => ?_)
  have hP : va_P (dC, dI) vwCl [(a_tk, .inr (1, [.int p1, .int p2]))] H := hP
  have hD : va_D A [(a_tk, .inr (1, [.int p1, .int p2]))] := hD
  rw [hQ]
  exact rt_v (p1, p2) hx hb hr hlocks h hP hD hS dX1_init_14

/-- RentOrBuy$Flat.<init>, kind 1 -/
def rmX1_init_k1 : Room := { frames := 1, cells := 0, slots := 0, locals := 12 }
set_option maxHeartbeats 4000000 in
set_option maxRecDepth 100000 in
theorem c_X1_init_k1 (l : Launch) (dC : Nat → ClassId) (dI : Nat → Nat → Nat) (kA : ClassId) (a_tk : Nat) (sz : Nat) (p1 : Int32) (p2 : Int32) (K : Int32 → Int32 → Prop) (hg : g_X1_init_k1 p1 p2 K) : Met l yX1_init wsX1_init rmX1_init_k1 (va_Pc [.ref a_tk, .int p1, .int p2] (prW (dC, dI) kA sz [(a_tk, .inr (4, [.int 0, .int 0, .int 0]))])) (va_Qv (fun (u : Int32 × Int32) => K u.1 u.2) (poW (dC, dI) (va_A [(a_tk, .inr (4, [.int 0, .int 0, .int 0]))] sz) (fun (u : Int32 × Int32) => [(a_tk, .inr (4, [.int u.1, .int u.2, .int 0]))])) (va_A [(a_tk, .inr (4, [.int 0, .int 0, .int 0]))] sz)) 0 0 (va_A [(a_tk, .inr (4, [.int 0, .int 0, .int 0]))] sz) := by
  refine Met.ofW (cc := cX1_init) (maxL := 3) (ret := none) (by decide) rfl ?_
  intro p e s m args below meth c s₁ B hml hv
  obtain ⟨hargs, hsz, hP, hK, hD0, hN⟩ := hv
  have hx := B.exec
  have hb := B.bytes
  have hr := B.returns
  have hts := atoms_spec (ws := wsX1_init) B.pre
  have hown : s.vm.findClass RX1 = some m.cls := findClass_of_methodNamed B.named
  have hlocks := B.notSynchronized
  have hin : meth.name = "<init>" := (name_of_methodNamed B.named B.method).1
  subst hsz
  have hD := hD0.self (sz := s.heap.size)
  generalize hAe : va_A [(a_tk, .inr (4, [.int 0, .int 0, .int 0]))] s.heap.size = A at hD ⊢
  have hA : ∀ q : Nat, s.heap.size ≤ q → A q := fun q h => by rw [← hAe]; exact Or.inr h
  have hS : va_S A s.heap s.heap [] := va_S.rf
  obtain ⟨Q, hQ⟩ : ∃ Q : State → Prop, Q = MQ below (va_Qv (fun (u : Int32 × Int32) => K u.1 u.2) (poW (dC, dI) A (fun (u : Int32 × Int32) => [(a_tk, .inr (4, [.int u.1, .int u.2, .int 0]))])) A) args s 0 0 A := ⟨_, rfl⟩
  rw [← hQ]
  have hP : va_P (dC, dI) vwCl [(a_tk, .inr (4, [.int 0, .int 0, .int 0]))] s.heap := hP
  refine en_ok hargs (Nat.le_of_ble_eq_true rfl) (fun ls hl => ?_)
  have hl : lv_has ls 3 [(0, .ref a_tk), (1, .int p1), (2, .int p2)] := hl
  have h := hg
  unfold g_X1_init_k1 at h
  refine lv_aload_n hx hb dX1_init_0 rfl (lv_at hl 0 rfl) ?_
  refine W.objInit hx hb hown (hts (.methodLink RX1 3 objectInit) (List.mem_cons_of_mem _ (List.mem_append_left _ (List.mem_append_left _ (List.mem_append_left _ (List.mem_of_getElem? (i := 0) rfl)))))) (hts (.instanceMethod objectInit) (List.mem_cons_of_mem _ (List.mem_append_left _ (List.mem_append_left _ (List.mem_append_left _ (List.mem_of_getElem? (i := 1) rfl)))))) (hts (.code objectInit ⟨#[0xb1]⟩ 1 none) (List.mem_cons_of_mem _ (List.mem_append_left _ (List.mem_append_left _ (List.mem_append_left _ (List.mem_of_getElem? (i := 2) rfl)))))) rfl (by rw [hml]; exact hl.1) rfl dX1_init_1 (Nat.le_of_ble_eq_true rfl) (Nat.le_of_ble_eq_true rfl) ?_
  refine W.eq (g2 := F0 m 4 ls []) rfl ?_
  refine lv_aload_n hx hb dX1_init_4 rfl (lv_at hl 0 rfl) ?_
  refine lv_iload_n hx hb dX1_init_5 rfl (lv_at hl 1 rfl) ?_
  refine va_putF (D := (dC, dI)) (ci := 4) (v := .int p1) (ty := .int) (C := RX4) (T := TX4) (N := 3) hx hb hts (fun _ h => List.mem_cons_of_mem _ (List.mem_append_right _ h)) tyX4 tyX4_ok nmX4 hown hK hP hD hS 0 rfl rfl 0 (by decide) (hts (.fieldLink RX1 9 "RentOrBuy$Flat" "dayRent" "I") (List.mem_cons_of_mem _ (List.mem_append_left _ (List.mem_append_left _ (List.mem_append_left _ (List.mem_of_getElem? (i := 3) rfl)))))) (fun _ h9 => h9) rfl hin rfl (by decide +kernel) rfl rfl (Nat.le_of_ble_eq_true rfl) dX1_init_6 (fun H locs hP hD hS => ?_)
  have hP : va_P (dC, dI) vwCl [(a_tk, .inr (4, [.int p1, .int 0, .int 0]))] H := hP
  have hD : va_D A [(a_tk, .inr (4, [.int p1, .int 0, .int 0]))] := hD
  refine lv_aload_n hx hb dX1_init_9 rfl (lv_at hl 0 rfl) ?_
  refine lv_iload_n hx hb dX1_init_10 rfl (lv_at hl 2 rfl) ?_
  refine va_putF (D := (dC, dI)) (ci := 4) (v := .int p2) (ty := .int) (C := RX4) (T := TX4) (N := 3) hx hb hts (fun _ h => List.mem_cons_of_mem _ (List.mem_append_right _ h)) tyX4 tyX4_ok nmX4 hown hK hP hD hS 0 rfl rfl 1 (by decide) (hts (.fieldLink RX1 15 "RentOrBuy$Flat" "price" "I") (List.mem_cons_of_mem _ (List.mem_append_left _ (List.mem_append_left _ (List.mem_append_left _ (List.mem_of_getElem? (i := 4) rfl)))))) (fun _ h9 => h9) rfl hin rfl (by decide +kernel) rfl rfl (Nat.le_of_ble_eq_true rfl) dX1_init_11 (fun H locs hP hD hS => ?_)
  have hP : va_P (dC, dI) vwCl [(a_tk, .inr (4, [.int p1, .int p2, .int 0]))] H := hP
  have hD : va_D A [(a_tk, .inr (4, [.int p1, .int p2, .int 0]))] := hD
  rw [hQ]
  exact rt_v (p1, p2) hx hb hr hlocks h hP hD hS dX1_init_14

/-- RentOrBuy$Flat.kindNumber, kind 0 -/
def rmX1_kindNumber_k0 : Room := { frames := 0, cells := 0, slots := 0, locals := 0 }
set_option maxHeartbeats 4000000 in
set_option maxRecDepth 100000 in
theorem c_X1_kindNumber_k0 (l : Launch) (dC : Nat → ClassId) (dI : Nat → Nat → Nat) (kA : ClassId) (a_tk : Nat) (sz : Nat) (tkd : Int32) (tkp : Int32) (K : Int32 → Prop) (hg : g_X1_kindNumber_k0 tkd tkp K) : Met l yX1_kindNumber wsX1_kindNumber rmX1_kindNumber_k0 (va_Pc [.ref a_tk] (prW (dC, dI) kA sz [(a_tk, .inr (1, [.int tkd, .int tkp]))])) (va_Qi (fun (r : Int32) (u : Unit) => K r) (poW (dC, dI) (va_A [(a_tk, .inr (1, [.int tkd, .int tkp]))] sz) (fun (u : Unit) => [(a_tk, .inr (1, [.int tkd, .int tkp]))])) (va_A [(a_tk, .inr (1, [.int tkd, .int tkp]))] sz)) 0 0 (va_A [(a_tk, .inr (1, [.int tkd, .int tkp]))] sz) := by
  refine Met.ofW (cc := cX1_kindNumber) (maxL := 1) (ret := (some .int)) (by decide) rfl ?_
  intro p e s m args below meth c s₁ B hml hv
  obtain ⟨hargs, hsz, hP, hK, hD0, hN⟩ := hv
  have hx := B.exec
  have hb := B.bytes
  have hr := B.returns
  have hts := atoms_spec (ws := wsX1_kindNumber) B.pre
  have hown : s.vm.findClass RX1 = some m.cls := findClass_of_methodNamed B.named
  have hlocks := B.notSynchronized
  subst hsz
  have hD := hD0.self (sz := s.heap.size)
  generalize hAe : va_A [(a_tk, .inr (1, [.int tkd, .int tkp]))] s.heap.size = A at hD ⊢
  have hA : ∀ q : Nat, s.heap.size ≤ q → A q := fun q h => by rw [← hAe]; exact Or.inr h
  have hS : va_S A s.heap s.heap [] := va_S.rf
  obtain ⟨Q, hQ⟩ : ∃ Q : State → Prop, Q = MQ below (va_Qi (fun (r : Int32) (u : Unit) => K r) (poW (dC, dI) A (fun (u : Unit) => [(a_tk, .inr (1, [.int tkd, .int tkp]))])) A) args s 0 0 A := ⟨_, rfl⟩
  rw [← hQ]
  have hP : va_P (dC, dI) vwCl [(a_tk, .inr (1, [.int tkd, .int tkp]))] s.heap := hP
  refine en_ok hargs (Nat.le_of_ble_eq_true rfl) (fun ls hl => ?_)
  have hl : lv_has ls 1 [(0, .ref a_tk)] := hl
  have h := hg
  unfold g_X1_kindNumber_k0 at h
  refine lv_iconst (v := (0 : Int32)) hx hb dX1_kindNumber_0 (by decide +kernel) ?_
  rw [hQ]
  exact rt_i () hx hb hr hlocks h hP hD hS dX1_kindNumber_1

/-- RentOrBuy$Flat.kindNumber, kind 1 -/
def rmX1_kindNumber_k1 : Room := { frames := 0, cells := 0, slots := 0, locals := 0 }
set_option maxHeartbeats 4000000 in
set_option maxRecDepth 100000 in
theorem c_X1_kindNumber_k1 (l : Launch) (dC : Nat → ClassId) (dI : Nat → Nat → Nat) (kA : ClassId) (a_tk : Nat) (sz : Nat) (tkd : Int32) (tkp : Int32) (tkr : Int32) (K : Int32 → Prop) (hg : g_X1_kindNumber_k1 tkd tkp tkr K) : Met l yX1_kindNumber wsX1_kindNumber rmX1_kindNumber_k1 (va_Pc [.ref a_tk] (prW (dC, dI) kA sz [(a_tk, .inr (4, [.int tkd, .int tkp, .int tkr]))])) (va_Qi (fun (r : Int32) (u : Unit) => K r) (poW (dC, dI) (va_A [(a_tk, .inr (4, [.int tkd, .int tkp, .int tkr]))] sz) (fun (u : Unit) => [(a_tk, .inr (4, [.int tkd, .int tkp, .int tkr]))])) (va_A [(a_tk, .inr (4, [.int tkd, .int tkp, .int tkr]))] sz)) 0 0 (va_A [(a_tk, .inr (4, [.int tkd, .int tkp, .int tkr]))] sz) := by
  refine Met.ofW (cc := cX1_kindNumber) (maxL := 1) (ret := (some .int)) (by decide) rfl ?_
  intro p e s m args below meth c s₁ B hml hv
  obtain ⟨hargs, hsz, hP, hK, hD0, hN⟩ := hv
  have hx := B.exec
  have hb := B.bytes
  have hr := B.returns
  have hts := atoms_spec (ws := wsX1_kindNumber) B.pre
  have hown : s.vm.findClass RX1 = some m.cls := findClass_of_methodNamed B.named
  have hlocks := B.notSynchronized
  subst hsz
  have hD := hD0.self (sz := s.heap.size)
  generalize hAe : va_A [(a_tk, .inr (4, [.int tkd, .int tkp, .int tkr]))] s.heap.size = A at hD ⊢
  have hA : ∀ q : Nat, s.heap.size ≤ q → A q := fun q h => by rw [← hAe]; exact Or.inr h
  have hS : va_S A s.heap s.heap [] := va_S.rf
  obtain ⟨Q, hQ⟩ : ∃ Q : State → Prop, Q = MQ below (va_Qi (fun (r : Int32) (u : Unit) => K r) (poW (dC, dI) A (fun (u : Unit) => [(a_tk, .inr (4, [.int tkd, .int tkp, .int tkr]))])) A) args s 0 0 A := ⟨_, rfl⟩
  rw [← hQ]
  have hP : va_P (dC, dI) vwCl [(a_tk, .inr (4, [.int tkd, .int tkp, .int tkr]))] s.heap := hP
  refine en_ok hargs (Nat.le_of_ble_eq_true rfl) (fun ls hl => ?_)
  have hl : lv_has ls 1 [(0, .ref a_tk)] := hl
  have h := hg
  unfold g_X1_kindNumber_k1 at h
  refine lv_iconst (v := (0 : Int32)) hx hb dX1_kindNumber_0 (by decide +kernel) ?_
  rw [hQ]
  exact rt_i () hx hb hr hlocks h hP hD hS dX1_kindNumber_1

/-- RentOrBuy$Flat.kindNumber, kind 2 -/
def rmX1_kindNumber_k2 : Room := { frames := 0, cells := 0, slots := 0, locals := 0 }
set_option maxHeartbeats 4000000 in
set_option maxRecDepth 100000 in
theorem c_X1_kindNumber_k2 (l : Launch) (dC : Nat → ClassId) (dI : Nat → Nat → Nat) (kA : ClassId) (a_tk : Nat) (sz : Nat) (tkr : Int32) (tkd : Int32) (tkp : Int32) (tkc : Int32) (K : Int32 → Prop) (hg : g_X1_kindNumber_k2 tkr tkd tkp tkc K) : Met l yX1_kindNumber wsX1_kindNumber rmX1_kindNumber_k2 (va_Pc [.ref a_tk] (prW (dC, dI) kA sz [(a_tk, .inr (0, [.int tkr, .int tkd, .int tkp, .int tkc]))])) (va_Qi (fun (r : Int32) (u : Unit) => K r) (poW (dC, dI) (va_A [(a_tk, .inr (0, [.int tkr, .int tkd, .int tkp, .int tkc]))] sz) (fun (u : Unit) => [(a_tk, .inr (0, [.int tkr, .int tkd, .int tkp, .int tkc]))])) (va_A [(a_tk, .inr (0, [.int tkr, .int tkd, .int tkp, .int tkc]))] sz)) 0 0 (va_A [(a_tk, .inr (0, [.int tkr, .int tkd, .int tkp, .int tkc]))] sz) := by
  refine Met.ofW (cc := cX1_kindNumber) (maxL := 1) (ret := (some .int)) (by decide) rfl ?_
  intro p e s m args below meth c s₁ B hml hv
  obtain ⟨hargs, hsz, hP, hK, hD0, hN⟩ := hv
  have hx := B.exec
  have hb := B.bytes
  have hr := B.returns
  have hts := atoms_spec (ws := wsX1_kindNumber) B.pre
  have hown : s.vm.findClass RX1 = some m.cls := findClass_of_methodNamed B.named
  have hlocks := B.notSynchronized
  subst hsz
  have hD := hD0.self (sz := s.heap.size)
  generalize hAe : va_A [(a_tk, .inr (0, [.int tkr, .int tkd, .int tkp, .int tkc]))] s.heap.size = A at hD ⊢
  have hA : ∀ q : Nat, s.heap.size ≤ q → A q := fun q h => by rw [← hAe]; exact Or.inr h
  have hS : va_S A s.heap s.heap [] := va_S.rf
  obtain ⟨Q, hQ⟩ : ∃ Q : State → Prop, Q = MQ below (va_Qi (fun (r : Int32) (u : Unit) => K r) (poW (dC, dI) A (fun (u : Unit) => [(a_tk, .inr (0, [.int tkr, .int tkd, .int tkp, .int tkc]))])) A) args s 0 0 A := ⟨_, rfl⟩
  rw [← hQ]
  have hP : va_P (dC, dI) vwCl [(a_tk, .inr (0, [.int tkr, .int tkd, .int tkp, .int tkc]))] s.heap := hP
  refine en_ok hargs (Nat.le_of_ble_eq_true rfl) (fun ls hl => ?_)
  have hl : lv_has ls 1 [(0, .ref a_tk)] := hl
  have h := hg
  unfold g_X1_kindNumber_k2 at h
  refine lv_iconst (v := (0 : Int32)) hx hb dX1_kindNumber_0 (by decide +kernel) ?_
  rw [hQ]
  exact rt_i () hx hb hr hlocks h hP hD hS dX1_kindNumber_1

/-- RentOrBuy$Flat.rentOf, kind 0 -/
def rmX1_rentOf_k0 : Room := { frames := 0, cells := 0, slots := 0, locals := 0 }
set_option maxHeartbeats 4000000 in
set_option maxRecDepth 100000 in
theorem c_X1_rentOf_k0 (l : Launch) (dC : Nat → ClassId) (dI : Nat → Nat → Nat) (kA : ClassId) (a_tk : Nat) (sz : Nat) (tkd : Int32) (tkp : Int32) (p1 : Int32) (K : Int32 → Prop) (hg : g_X1_rentOf_k0 tkd tkp p1 K) : Met l yX1_rentOf wsX1_rentOf rmX1_rentOf_k0 (va_Pc [.ref a_tk, .int p1] (prW (dC, dI) kA sz [(a_tk, .inr (1, [.int tkd, .int tkp]))])) (va_Qi (fun (r : Int32) (u : Unit) => K r) (poW (dC, dI) (va_A [(a_tk, .inr (1, [.int tkd, .int tkp]))] sz) (fun (u : Unit) => [(a_tk, .inr (1, [.int tkd, .int tkp]))])) (va_A [(a_tk, .inr (1, [.int tkd, .int tkp]))] sz)) 0 0 (va_A [(a_tk, .inr (1, [.int tkd, .int tkp]))] sz) := by
  refine Met.ofW (cc := cX1_rentOf) (maxL := 2) (ret := (some .int)) (by decide) rfl ?_
  intro p e s m args below meth c s₁ B hml hv
  obtain ⟨hargs, hsz, hP, hK, hD0, hN⟩ := hv
  have hx := B.exec
  have hb := B.bytes
  have hr := B.returns
  have hts := atoms_spec (ws := wsX1_rentOf) B.pre
  have hown : s.vm.findClass RX1 = some m.cls := findClass_of_methodNamed B.named
  have hlocks := B.notSynchronized
  subst hsz
  have hD := hD0.self (sz := s.heap.size)
  generalize hAe : va_A [(a_tk, .inr (1, [.int tkd, .int tkp]))] s.heap.size = A at hD ⊢
  have hA : ∀ q : Nat, s.heap.size ≤ q → A q := fun q h => by rw [← hAe]; exact Or.inr h
  have hS : va_S A s.heap s.heap [] := va_S.rf
  obtain ⟨Q, hQ⟩ : ∃ Q : State → Prop, Q = MQ below (va_Qi (fun (r : Int32) (u : Unit) => K r) (poW (dC, dI) A (fun (u : Unit) => [(a_tk, .inr (1, [.int tkd, .int tkp]))])) A) args s 0 0 A := ⟨_, rfl⟩
  rw [← hQ]
  have hP : va_P (dC, dI) vwCl [(a_tk, .inr (1, [.int tkd, .int tkp]))] s.heap := hP
  refine en_ok hargs (Nat.le_of_ble_eq_true rfl) (fun ls hl => ?_)
  have hl : lv_has ls 2 [(0, .ref a_tk), (1, .int p1)] := hl
  have h := hg
  unfold g_X1_rentOf_k0 at h
  refine lv_aload_n hx hb dX1_rentOf_0 rfl (lv_at hl 0 rfl) ?_
  refine va_get (D := (dC, dI)) (ci := 1) (v := .int tkd) (C := RX1) (T := TX1) (N := 2) hx hb hts (fun _ h => List.mem_cons_of_mem _ (List.mem_append_left _ (List.mem_append_right _ h))) hown hK hP 0 rfl rfl 0 (by decide) (hts (.fieldLink RX1 9 "RentOrBuy$Flat" "dayRent" "I") (List.mem_cons_of_mem _ (List.mem_append_left _ (List.mem_append_left _ (List.mem_append_left _ (List.mem_of_getElem? (i := 0) rfl)))))) (fun _ h9 => h9) rfl dX1_rentOf_1 ?_
  rw [hQ]
  exact rt_i () hx hb hr hlocks h hP hD hS dX1_rentOf_4

/-- RentOrBuy$Flat.rentOf, kind 1 -/
def rmX1_rentOf_k1 : Room := { frames := 0, cells := 0, slots := 0, locals := 0 }
set_option maxHeartbeats 4000000 in
set_option maxRecDepth 100000 in
theorem c_X1_rentOf_k1 (l : Launch) (dC : Nat → ClassId) (dI : Nat → Nat → Nat) (kA : ClassId) (a_tk : Nat) (sz : Nat) (tkd : Int32) (tkp : Int32) (tkr : Int32) (p1 : Int32) (K : Int32 → Prop) (hg : g_X1_rentOf_k1 tkd tkp tkr p1 K) : Met l yX1_rentOf wsX1_rentOf rmX1_rentOf_k1 (va_Pc [.ref a_tk, .int p1] (prW (dC, dI) kA sz [(a_tk, .inr (4, [.int tkd, .int tkp, .int tkr]))])) (va_Qi (fun (r : Int32) (u : Unit) => K r) (poW (dC, dI) (va_A [(a_tk, .inr (4, [.int tkd, .int tkp, .int tkr]))] sz) (fun (u : Unit) => [(a_tk, .inr (4, [.int tkd, .int tkp, .int tkr]))])) (va_A [(a_tk, .inr (4, [.int tkd, .int tkp, .int tkr]))] sz)) 0 0 (va_A [(a_tk, .inr (4, [.int tkd, .int tkp, .int tkr]))] sz) := by
  refine Met.ofW (cc := cX1_rentOf) (maxL := 2) (ret := (some .int)) (by decide) rfl ?_
  intro p e s m args below meth c s₁ B hml hv
  obtain ⟨hargs, hsz, hP, hK, hD0, hN⟩ := hv
  have hx := B.exec
  have hb := B.bytes
  have hr := B.returns
  have hts := atoms_spec (ws := wsX1_rentOf) B.pre
  have hown : s.vm.findClass RX1 = some m.cls := findClass_of_methodNamed B.named
  have hlocks := B.notSynchronized
  subst hsz
  have hD := hD0.self (sz := s.heap.size)
  generalize hAe : va_A [(a_tk, .inr (4, [.int tkd, .int tkp, .int tkr]))] s.heap.size = A at hD ⊢
  have hA : ∀ q : Nat, s.heap.size ≤ q → A q := fun q h => by rw [← hAe]; exact Or.inr h
  have hS : va_S A s.heap s.heap [] := va_S.rf
  obtain ⟨Q, hQ⟩ : ∃ Q : State → Prop, Q = MQ below (va_Qi (fun (r : Int32) (u : Unit) => K r) (poW (dC, dI) A (fun (u : Unit) => [(a_tk, .inr (4, [.int tkd, .int tkp, .int tkr]))])) A) args s 0 0 A := ⟨_, rfl⟩
  rw [← hQ]
  have hP : va_P (dC, dI) vwCl [(a_tk, .inr (4, [.int tkd, .int tkp, .int tkr]))] s.heap := hP
  refine en_ok hargs (Nat.le_of_ble_eq_true rfl) (fun ls hl => ?_)
  have hl : lv_has ls 2 [(0, .ref a_tk), (1, .int p1)] := hl
  have h := hg
  unfold g_X1_rentOf_k1 at h
  refine lv_aload_n hx hb dX1_rentOf_0 rfl (lv_at hl 0 rfl) ?_
  refine va_get (D := (dC, dI)) (ci := 4) (v := .int tkd) (C := RX4) (T := TX4) (N := 3) hx hb hts (fun _ h => List.mem_cons_of_mem _ (List.mem_append_right _ h)) hown hK hP 0 rfl rfl 0 (by decide) (hts (.fieldLink RX1 9 "RentOrBuy$Flat" "dayRent" "I") (List.mem_cons_of_mem _ (List.mem_append_left _ (List.mem_append_left _ (List.mem_append_left _ (List.mem_of_getElem? (i := 0) rfl)))))) (fun _ h9 => h9) rfl dX1_rentOf_1 ?_
  rw [hQ]
  exact rt_i () hx hb hr hlocks h hP hD hS dX1_rentOf_4

/-- RentOrBuy$Lots.clearAll -/
def rmX2_clearAll : Room := { frames := 0, cells := 0, slots := 0, locals := 0 }
set_option maxHeartbeats 4000000 in
set_option maxRecDepth 100000 in
theorem c_X2_clearAll (l : Launch) (dC : Nat → ClassId) (dI : Nat → Nat → Nat) (kA : ClassId) (a_lo a_op a_oe : Nat) (sz : Nat) (opF : Nat → Int32) (oeF : Nat → Int32) (K : (Nat → Int32) → (Nat → Int32) → Prop) (hg : g_X2_clearAll opF oeF K) : Met l yX2_clearAll wsX2_clearAll rmX2_clearAll (va_Pc [.ref a_lo] (prW (dC, dI) kA sz [(a_lo, .inr (2, [.ref a_op, .ref a_oe])), (a_op, .inl (kA, 42, .inl opF)), (a_oe, .inl (kA, 42, .inl oeF))])) (va_Qv (fun (u : (Nat → Int32) × (Nat → Int32)) => K u.1 u.2) (poW (dC, dI) (va_A [(a_lo, .inr (2, [.ref a_op, .ref a_oe])), (a_op, .inl (kA, 42, .inl opF)), (a_oe, .inl (kA, 42, .inl oeF))] sz) (fun (u : (Nat → Int32) × (Nat → Int32)) => [(a_lo, .inr (2, [.ref a_op, .ref a_oe])), (a_op, .inl (kA, 42, .inl u.1)), (a_oe, .inl (kA, 42, .inl u.2))])) (va_A [(a_lo, .inr (2, [.ref a_op, .ref a_oe])), (a_op, .inl (kA, 42, .inl opF)), (a_oe, .inl (kA, 42, .inl oeF))] sz)) 0 0 (va_A [(a_lo, .inr (2, [.ref a_op, .ref a_oe])), (a_op, .inl (kA, 42, .inl opF)), (a_oe, .inl (kA, 42, .inl oeF))] sz) := by
  refine Met.ofW (cc := cX2_clearAll) (maxL := 2) (ret := none) (by decide) rfl ?_
  intro p e s m args below meth c s₁ B hml hv
  obtain ⟨hargs, hsz, hP, hK, hD0, hN⟩ := hv
  have hx := B.exec
  have hb := B.bytes
  have hr := B.returns
  have hts := atoms_spec (ws := wsX2_clearAll) B.pre
  have hown : s.vm.findClass RX2 = some m.cls := findClass_of_methodNamed B.named
  have hlocks := B.notSynchronized
  subst hsz
  have hD := hD0.self (sz := s.heap.size)
  generalize hAe : va_A [(a_lo, .inr (2, [.ref a_op, .ref a_oe])), (a_op, .inl (kA, 42, .inl opF)), (a_oe, .inl (kA, 42, .inl oeF))] s.heap.size = A at hD ⊢
  have hA : ∀ q : Nat, s.heap.size ≤ q → A q := fun q h => by rw [← hAe]; exact Or.inr h
  have hS : va_S A s.heap s.heap [] := va_S.rf
  obtain ⟨Q, hQ⟩ : ∃ Q : State → Prop, Q = MQ below (va_Qv (fun (u : (Nat → Int32) × (Nat → Int32)) => K u.1 u.2) (poW (dC, dI) A (fun (u : (Nat → Int32) × (Nat → Int32)) => [(a_lo, .inr (2, [.ref a_op, .ref a_oe])), (a_op, .inl (kA, 42, .inl u.1)), (a_oe, .inl (kA, 42, .inl u.2))])) A) args s 0 0 A := ⟨_, rfl⟩
  rw [← hQ]
  have hP : va_P (dC, dI) vwCl [(a_lo, .inr (2, [.ref a_op, .ref a_oe])), (a_op, .inl (kA, 42, .inl opF)), (a_oe, .inl (kA, 42, .inl oeF))] s.heap := hP
  refine en_ok hargs (Nat.le_of_ble_eq_true rfl) (fun ls hl => ?_)
  have hl : lv_has ls 2 [(0, .ref a_lo)] := hl
  have h := hg
  unfold g_X2_clearAll at h
  refine lv_iconst (v := (0 : Int32)) hx hb dX2_clearAll_0 (by decide +kernel) ?_
  refine lv_istore_n (lv' := [(1, .int (0 : Int32)), (0, .ref a_lo)]) hx hb dX2_clearAll_1 rfl hl (by decide) rfl (fun ls hl => ?_)
  obtain ⟨J2, ⟨n2, h⟩, hz2, hs2⟩ := h
  have hL2 : ∀ (n2 : Nat) (v1_2 : Int32) (opF_2 : Nat → Int32) (oeF_2 : Nat → Int32), J2 n2 v1_2 opF_2 oeF_2 → ∀ (H : Heap) (locs : List Loc) (ls : Array Slot), va_P (dC, dI) vwCl [(a_lo, .inr (2, [.ref a_op, .ref a_oe])), (a_op, .inl (kA, 42, .inl opF_2)), (a_oe, .inl (kA, 42, .inl oeF_2))] H → va_D A [(a_lo, .inr (2, [.ref a_op, .ref a_oe])), (a_op, .inl (kA, 42, .inl opF_2)), (a_oe, .inl (kA, 42, .inl oeF_2))] → va_S A s.heap H locs → lv_has ls 2 [(0, .ref a_lo), (1, .int v1_2)] → W p l e (headSpec wsX2_clearAll rmX2_clearAll).room s m args below meth c H locs 0 0 Q (F0 m 2 ls []) := by
    intro n2
    induction n2 with
    | zero => intro v1_2 opF_2 oeF_2 h; exact absurd h (hz2 v1_2 opF_2 oeF_2)
    | succ n2 ih2 =>
      intro v1_2 opF_2 oeF_2 h H locs ls hP hD hS hl
      replace h := hs2 n2 v1_2 opF_2 oeF_2 h
      refine lv_iload_n hx hb dX2_clearAll_2 rfl (lv_at hl 1 rfl) ?_
      refine lv_bipush (v := (42 : Int32)) hx hb dX2_clearAll_3 (by decide +kernel) ?_
      refine lv_icmp_ge (tgt := 28) hx hb dX2_clearAll_5 (by decide) (fun c5 => ?_) (fun c5 => ?_)
      · replace h := h.1 c5
        rw [hQ]
        exact rt_v (opF_2, oeF_2) hx hb hr hlocks h hP hD hS dX2_clearAll_28
      · replace h := h.2 c5
        refine lv_aload_n hx hb dX2_clearAll_8 rfl (lv_at hl 0 rfl) ?_
        refine va_get (D := (dC, dI)) (ci := 2) (v := .ref a_op) (C := RX2) (T := TX2) (N := 2) hx hb hts (fun _ h => List.mem_cons_of_mem _ (List.mem_append_right _ h)) hown hK hP 0 rfl rfl 0 (by decide) (hts (.fieldLink RX2 9 "RentOrBuy$Lots" "ofPlans" "[I") (List.mem_cons_of_mem _ (List.mem_append_left _ (List.mem_of_getElem? (i := 0) rfl)))) (fun _ h9 => h9) rfl dX2_clearAll_9 ?_
        refine lv_iload_n hx hb dX2_clearAll_12 rfl (lv_at hl 1 rfl) ?_
        refine lv_iconst (v := (0 : Int32)) hx hb dX2_clearAll_13 (by decide +kernel) ?_
        obtain ⟨hi14, h⟩ := h
        refine va_iast hx hb hK hP hD hS 1 0 rfl rfl hi14 dX2_clearAll_14 (fun H locs hP hD hS => ?_)
        have hP : va_P (dC, dI) vwCl [(a_lo, .inr (2, [.ref a_op, .ref a_oe])), (a_op, .inl (kA, 42, .inl (upd opF_2 v1_2.toNatClampNeg (0 : Int32)))), (a_oe, .inl (kA, 42, .inl oeF_2))] H := hP
        have hD : va_D A [(a_lo, .inr (2, [.ref a_op, .ref a_oe])), (a_op, .inl (kA, 42, .inl (upd opF_2 v1_2.toNatClampNeg (0 : Int32)))), (a_oe, .inl (kA, 42, .inl oeF_2))] := hD
        refine lv_aload_n hx hb dX2_clearAll_15 rfl (lv_at hl 0 rfl) ?_
        refine va_get (D := (dC, dI)) (ci := 2) (v := .ref a_oe) (C := RX2) (T := TX2) (N := 2) hx hb hts (fun _ h => List.mem_cons_of_mem _ (List.mem_append_right _ h)) hown hK hP 0 rfl rfl 1 (by decide) (hts (.fieldLink RX2 15 "RentOrBuy$Lots" "ofEnds" "[I") (List.mem_cons_of_mem _ (List.mem_append_left _ (List.mem_of_getElem? (i := 1) rfl)))) (fun _ h9 => h9) rfl dX2_clearAll_16 ?_
        refine lv_iload_n hx hb dX2_clearAll_19 rfl (lv_at hl 1 rfl) ?_
        refine lv_iconst (v := (0 : Int32)) hx hb dX2_clearAll_20 (by decide +kernel) ?_
        obtain ⟨hi21, h⟩ := h
        refine va_iast hx hb hK hP hD hS 2 0 rfl rfl hi21 dX2_clearAll_21 (fun H locs hP hD hS => ?_)
        have hP : va_P (dC, dI) vwCl [(a_lo, .inr (2, [.ref a_op, .ref a_oe])), (a_op, .inl (kA, 42, .inl (upd opF_2 v1_2.toNatClampNeg (0 : Int32)))), (a_oe, .inl (kA, 42, .inl (upd oeF_2 v1_2.toNatClampNeg (0 : Int32))))] H := hP
        have hD : va_D A [(a_lo, .inr (2, [.ref a_op, .ref a_oe])), (a_op, .inl (kA, 42, .inl (upd opF_2 v1_2.toNatClampNeg (0 : Int32)))), (a_oe, .inl (kA, 42, .inl (upd oeF_2 v1_2.toNatClampNeg (0 : Int32))))] := hD
        refine lv_iinc (v := (v1_2 + (1 : Int32))) (lv' := [(1, .int (v1_2 + (1 : Int32))), (0, .ref a_lo)]) hx hb dX2_clearAll_22 hl (k := 1) rfl (by rfl) (by decide) rfl (fun ls hl => ?_)
        refine lv_goto (tgt := 2) hx hb dX2_clearAll_25 (by decide) ?_
        exact ih2 (v1_2 + (1 : Int32)) (upd opF_2 v1_2.toNatClampNeg (0 : Int32)) (upd oeF_2 v1_2.toNatClampNeg (0 : Int32)) h _ _ _ hP hD hS (lv_sub hl [1, 0] rfl)
  exact hL2 n2 (0 : Int32) opF oeF h _ _ _ hP hD hS (lv_sub hl [1, 0] rfl)

/-- RentOrBuy$Plans.costOf -/
def rmX3_costOf : Room := { frames := 0, cells := 0, slots := 0, locals := 0 }
set_option maxHeartbeats 4000000 in
set_option maxRecDepth 100000 in
theorem c_X3_costOf (l : Launch) (dC : Nat → ClassId) (dI : Nat → Nat → Nat) (kA : ClassId) (a_pl a_tk a_rs : Nat) (sz : Nat) (days : Int32) (tkk : Nat) (tkd : Int32) (tkp : Int32) (tkr : Int32) (tkc : Int32) (rsF : Nat → Int32) (p1 : Int32) (p2 : Int32) (K : Int32 → Prop) (hg : g_X3_costOf days tkk tkd tkp tkr tkc rsF p1 p2 K) : Met l yX3_costOf wsX3_costOf rmX3_costOf (va_Pc [.ref a_pl, .int p1, .int p2] (prW (dC, dI) kA sz [(a_pl, .inr (3, [.int days, .ref a_tk, .ref a_rs])), (a_tk, tkE tkk tkd tkp tkr tkc), (a_rs, .inl (kA, 41, .inl rsF))])) (va_Qi (fun (r : Int32) (u : Unit) => K r) (poW (dC, dI) (va_A [(a_pl, .inr (3, [.int days, .ref a_tk, .ref a_rs])), (a_tk, tkE tkk tkd tkp tkr tkc), (a_rs, .inl (kA, 41, .inl rsF))] sz) (fun (u : Unit) => [(a_pl, .inr (3, [.int days, .ref a_tk, .ref a_rs])), (a_tk, tkE tkk tkd tkp tkr tkc), (a_rs, .inl (kA, 41, .inl rsF))])) (va_A [(a_pl, .inr (3, [.int days, .ref a_tk, .ref a_rs])), (a_tk, tkE tkk tkd tkp tkr tkc), (a_rs, .inl (kA, 41, .inl rsF))] sz)) 0 0 (va_A [(a_pl, .inr (3, [.int days, .ref a_tk, .ref a_rs])), (a_tk, tkE tkk tkd tkp tkr tkc), (a_rs, .inl (kA, 41, .inl rsF))] sz) := by
  refine Met.ofW (cc := cX3_costOf) (maxL := 3) (ret := (some .int)) (by decide) rfl ?_
  intro p e s m args below meth c s₁ B hml hv
  obtain ⟨hargs, hsz, hP, hK, hD0, hN⟩ := hv
  have hx := B.exec
  have hb := B.bytes
  have hr := B.returns
  have hts := atoms_spec (ws := wsX3_costOf) B.pre
  have hown : s.vm.findClass RX3 = some m.cls := findClass_of_methodNamed B.named
  have hlocks := B.notSynchronized
  subst hsz
  have hD := hD0.self (sz := s.heap.size)
  generalize hAe : va_A [(a_pl, .inr (3, [.int days, .ref a_tk, .ref a_rs])), (a_tk, tkE tkk tkd tkp tkr tkc), (a_rs, .inl (kA, 41, .inl rsF))] s.heap.size = A at hD ⊢
  have hA : ∀ q : Nat, s.heap.size ≤ q → A q := fun q h => by rw [← hAe]; exact Or.inr h
  have hS : va_S A s.heap s.heap [] := va_S.rf
  obtain ⟨Q, hQ⟩ : ∃ Q : State → Prop, Q = MQ below (va_Qi (fun (r : Int32) (u : Unit) => K r) (poW (dC, dI) A (fun (u : Unit) => [(a_pl, .inr (3, [.int days, .ref a_tk, .ref a_rs])), (a_tk, tkE tkk tkd tkp tkr tkc), (a_rs, .inl (kA, 41, .inl rsF))])) A) args s 0 0 A := ⟨_, rfl⟩
  rw [← hQ]
  have hP : va_P (dC, dI) vwCl [(a_pl, .inr (3, [.int days, .ref a_tk, .ref a_rs])), (a_tk, tkE tkk tkd tkp tkr tkc), (a_rs, .inl (kA, 41, .inl rsF))] s.heap := hP
  refine en_ok hargs (Nat.le_of_ble_eq_true rfl) (fun ls hl => ?_)
  have hl : lv_has ls 3 [(0, .ref a_pl), (1, .int p1), (2, .int p2)] := hl
  have h := hg
  unfold g_X3_costOf at h
  refine lv_iload_n hx hb dX3_costOf_0 rfl (lv_at hl 1 rfl) ?_
  refine lv_iload_n hx hb dX3_costOf_1 rfl (lv_at hl 2 rfl) ?_
  refine lv_icmp_gt (tgt := 24) hx hb dX3_costOf_2 (by decide) (fun c2 => ?_) (fun c2 => ?_)
  · replace h := h.1 c2
    refine lv_aload_n hx hb dX3_costOf_24 rfl (lv_at hl 0 rfl) ?_
    refine va_get (D := (dC, dI)) (ci := 3) (v := .ref a_rs) (C := RX3) (T := TX3) (N := 3) hx hb hts (fun _ h => List.mem_cons_of_mem _ (List.mem_append_left _ (List.mem_append_left _ (List.mem_append_left _ (List.mem_append_right _ h))))) hown hK hP 0 rfl rfl 2 (by decide) (hts (.fieldLink RX3 24 "RentOrBuy$Plans" "rents" "[I") (List.mem_cons_of_mem _ (List.mem_append_left _ (List.mem_append_left _ (List.mem_append_left _ (List.mem_append_left _ (List.mem_of_getElem? (i := 0) rfl))))))) (fun _ h9 => h9) rfl dX3_costOf_25 ?_
    refine lv_iload_n hx hb dX3_costOf_28 rfl (lv_at hl 2 rfl) ?_
    obtain ⟨hi29, h⟩ := h
    refine va_iald hx hb hK hP 2 0 rfl rfl hi29 dX3_costOf_29 ?_
    rw [hQ]
    exact rt_i () hx hb hr hlocks h hP hD hS dX3_costOf_30
  · replace h := h.2 c2
    refine lv_aload_n hx hb dX3_costOf_5 rfl (lv_at hl 0 rfl) ?_
    refine va_get (D := (dC, dI)) (ci := 3) (v := .ref a_rs) (C := RX3) (T := TX3) (N := 3) hx hb hts (fun _ h => List.mem_cons_of_mem _ (List.mem_append_left _ (List.mem_append_left _ (List.mem_append_left _ (List.mem_append_right _ h))))) hown hK hP 0 rfl rfl 2 (by decide) (hts (.fieldLink RX3 24 "RentOrBuy$Plans" "rents" "[I") (List.mem_cons_of_mem _ (List.mem_append_left _ (List.mem_append_left _ (List.mem_append_left _ (List.mem_append_left _ (List.mem_of_getElem? (i := 0) rfl))))))) (fun _ h9 => h9) rfl dX3_costOf_6 ?_
    refine lv_iload_n hx hb dX3_costOf_9 rfl (lv_at hl 1 rfl) ?_
    refine lv_iconst (v := (1 : Int32)) hx hb dX3_costOf_10 (by decide +kernel) ?_
    refine lv_isub hx hb dX3_costOf_11 ?_
    obtain ⟨hi12, h⟩ := h
    refine va_iald hx hb hK hP 2 0 rfl rfl hi12 dX3_costOf_12 ?_
    refine lv_aload_n hx hb dX3_costOf_13 rfl (lv_at hl 0 rfl) ?_
    refine va_get (D := (dC, dI)) (ci := 3) (v := .ref a_tk) (C := RX3) (T := TX3) (N := 3) hx hb hts (fun _ h => List.mem_cons_of_mem _ (List.mem_append_left _ (List.mem_append_left _ (List.mem_append_left _ (List.mem_append_right _ h))))) hown hK hP 0 rfl rfl 1 (by decide) (hts (.fieldLink RX3 20 "RentOrBuy$Plans" "taken" "LRentOrBuy$Flat;") (List.mem_cons_of_mem _ (List.mem_append_left _ (List.mem_append_left _ (List.mem_append_left _ (List.mem_append_left _ (List.mem_of_getElem? (i := 1) rfl))))))) (fun _ h9 => h9) rfl dX3_costOf_14 ?_
    refine tk_price hx hb hts (fun _ h => List.mem_cons_of_mem _ (List.mem_append_left _ (List.mem_append_left _ (List.mem_append_right _ h)))) (fun _ h => List.mem_cons_of_mem _ (List.mem_append_left _ (List.mem_append_right _ h))) (fun _ h => List.mem_cons_of_mem _ (List.mem_append_right _ h)) hown hK hP hN 1 rfl dX3_costOf_17 ?_
    refine lv_iadd hx hb dX3_costOf_20 ?_
    refine lv_goto (tgt := 30) hx hb dX3_costOf_21 (by decide) ?_
    rw [hQ]
    exact rt_i () hx hb hr hlocks h hP hD hS dX3_costOf_30

/-- RentOrBuy$Lots.costsBy -/
def rmX2_costsBy : Room := { frames := 1, cells := 0, slots := 0, locals := 22 }
set_option maxHeartbeats 4000000 in
set_option maxRecDepth 100000 in
theorem c_X2_costsBy (l : Launch) (dC : Nat → ClassId) (dI : Nat → Nat → Nat) (kA : ClassId) (a_pl a_tk a_rs a_lo a_op a_oe : Nat) (sz : Nat) (days : Int32) (tkk : Nat) (tkd : Int32) (tkp : Int32) (tkr : Int32) (tkc : Int32) (rsF : Nat → Int32) (opF : Nat → Int32) (p2 : Int32) (K : Int64 → Prop) (hg : g_X2_costsBy days tkk tkd tkp tkr tkc rsF opF p2 K) : Met l yX2_costsBy wsX2_costsBy rmX2_costsBy (va_Pc [.ref a_lo, .ref a_pl, .int p2] (prW (dC, dI) kA sz [(a_pl, .inr (3, [.int days, .ref a_tk, .ref a_rs])), (a_tk, tkE tkk tkd tkp tkr tkc), (a_rs, .inl (kA, 41, .inl rsF)), (a_lo, .inr (2, [.ref a_op, .ref a_oe])), (a_op, .inl (kA, 42, .inl opF))])) (va_Ql (fun (r : Int64) (u : Unit) => K r) (poW (dC, dI) (va_A [(a_pl, .inr (3, [.int days, .ref a_tk, .ref a_rs])), (a_tk, tkE tkk tkd tkp tkr tkc), (a_rs, .inl (kA, 41, .inl rsF)), (a_lo, .inr (2, [.ref a_op, .ref a_oe])), (a_op, .inl (kA, 42, .inl opF))] sz) (fun (u : Unit) => [(a_pl, .inr (3, [.int days, .ref a_tk, .ref a_rs])), (a_tk, tkE tkk tkd tkp tkr tkc), (a_rs, .inl (kA, 41, .inl rsF)), (a_lo, .inr (2, [.ref a_op, .ref a_oe])), (a_op, .inl (kA, 42, .inl opF))])) (va_A [(a_pl, .inr (3, [.int days, .ref a_tk, .ref a_rs])), (a_tk, tkE tkk tkd tkp tkr tkc), (a_rs, .inl (kA, 41, .inl rsF)), (a_lo, .inr (2, [.ref a_op, .ref a_oe])), (a_op, .inl (kA, 42, .inl opF))] sz)) 0 0 (va_A [(a_pl, .inr (3, [.int days, .ref a_tk, .ref a_rs])), (a_tk, tkE tkk tkd tkp tkr tkc), (a_rs, .inl (kA, 41, .inl rsF)), (a_lo, .inr (2, [.ref a_op, .ref a_oe])), (a_op, .inl (kA, 42, .inl opF))] sz) := by
  refine Met.ofW (cc := cX2_costsBy) (maxL := 6) (ret := (some .long)) (by decide) rfl ?_
  intro p e s m args below meth c s₁ B hml hv
  obtain ⟨hargs, hsz, hP, hK, hD0, hN⟩ := hv
  have hx := B.exec
  have hb := B.bytes
  have hr := B.returns
  have hts := atoms_spec (ws := wsX2_costsBy) B.pre
  have hown : s.vm.findClass RX2 = some m.cls := findClass_of_methodNamed B.named
  have hlocks := B.notSynchronized
  subst hsz
  have hD := hD0.self (sz := s.heap.size)
  generalize hAe : va_A [(a_pl, .inr (3, [.int days, .ref a_tk, .ref a_rs])), (a_tk, tkE tkk tkd tkp tkr tkc), (a_rs, .inl (kA, 41, .inl rsF)), (a_lo, .inr (2, [.ref a_op, .ref a_oe])), (a_op, .inl (kA, 42, .inl opF))] s.heap.size = A at hD ⊢
  have hA : ∀ q : Nat, s.heap.size ≤ q → A q := fun q h => by rw [← hAe]; exact Or.inr h
  have hS : va_S A s.heap s.heap [] := va_S.rf
  obtain ⟨Q, hQ⟩ : ∃ Q : State → Prop, Q = MQ below (va_Ql (fun (r : Int64) (u : Unit) => K r) (poW (dC, dI) A (fun (u : Unit) => [(a_pl, .inr (3, [.int days, .ref a_tk, .ref a_rs])), (a_tk, tkE tkk tkd tkp tkr tkc), (a_rs, .inl (kA, 41, .inl rsF)), (a_lo, .inr (2, [.ref a_op, .ref a_oe])), (a_op, .inl (kA, 42, .inl opF))])) A) args s 0 0 A := ⟨_, rfl⟩
  rw [← hQ]
  have hP : va_P (dC, dI) vwCl [(a_pl, .inr (3, [.int days, .ref a_tk, .ref a_rs])), (a_tk, tkE tkk tkd tkp tkr tkc), (a_rs, .inl (kA, 41, .inl rsF)), (a_lo, .inr (2, [.ref a_op, .ref a_oe])), (a_op, .inl (kA, 42, .inl opF))] s.heap := hP
  refine en_ok hargs (Nat.le_of_ble_eq_true rfl) (fun ls hl => ?_)
  have hl : lv_has ls 6 [(0, .ref a_lo), (1, .ref a_pl), (2, .int p2)] := hl
  have h := hg
  unfold g_X2_costsBy at h
  refine lv_lconst (v := (0 : Int64)) hx hb dX2_costsBy_0 (by decide +kernel) ?_
  refine lv_lstore_n (lv' := [(3, .long (0 : Int64)), (0, .ref a_lo), (1, .ref a_pl), (2, .int p2)]) hx hb dX2_costsBy_1 rfl hl (by decide) rfl (fun ls hl => ?_)
  refine lv_iconst (v := (1 : Int32)) hx hb dX2_costsBy_2 (by decide +kernel) ?_
  refine lv_istore (lv' := [(5, .int (1 : Int32)), (3, .long (0 : Int64)), (0, .ref a_lo), (1, .ref a_pl), (2, .int p2)]) hx hb dX2_costsBy_3 hl (by decide) rfl (fun ls hl => ?_)
  obtain ⟨J5, ⟨n5, h⟩, hz5, hs5⟩ := h
  have hL5 : ∀ (n5 : Nat) (v3_5 : Int64) (v5_5 : Int32), J5 n5 v3_5 v5_5 → ∀ (H : Heap) (locs : List Loc) (ls : Array Slot), va_P (dC, dI) vwCl [(a_pl, .inr (3, [.int days, .ref a_tk, .ref a_rs])), (a_tk, tkE tkk tkd tkp tkr tkc), (a_rs, .inl (kA, 41, .inl rsF)), (a_lo, .inr (2, [.ref a_op, .ref a_oe])), (a_op, .inl (kA, 42, .inl opF))] H → va_D A [(a_pl, .inr (3, [.int days, .ref a_tk, .ref a_rs])), (a_tk, tkE tkk tkd tkp tkr tkc), (a_rs, .inl (kA, 41, .inl rsF)), (a_lo, .inr (2, [.ref a_op, .ref a_oe])), (a_op, .inl (kA, 42, .inl opF))] → va_S A s.heap H locs → lv_has ls 6 [(0, .ref a_lo), (1, .ref a_pl), (2, .int p2), (3, .long v3_5), (5, .int v5_5)] → W p l e (headSpec wsX2_costsBy rmX2_costsBy).room s m args below meth c H locs 0 0 Q (F0 m 5 ls []) := by
    intro n5
    induction n5 with
    | zero => intro v3_5 v5_5 h; exact absurd h (hz5 v3_5 v5_5)
    | succ n5 ih5 =>
      intro v3_5 v5_5 h H locs ls hP hD hS hl
      replace h := hs5 n5 v3_5 v5_5 h
      refine lv_iload hx hb dX2_costsBy_5 (lv_at hl 4 rfl) ?_
      refine lv_aload_n hx hb dX2_costsBy_7 rfl (lv_at hl 1 rfl) ?_
      refine va_getN (D := (dC, dI)) (ci := 3) (v := .int days) (C := RX3) (T := TX3) (N := 3) hx hb hts (fun _ h => List.mem_cons_of_mem _ (List.mem_append_left _ (List.mem_append_left _ (List.mem_append_left _ (List.mem_append_left _ (List.mem_append_right _ h)))))) hown hK hP 0 rfl rfl 0 (by decide) (hN.f 2 rfl) (fun _ h9 => h9) rfl dX2_costsBy_8 ?_
      refine lv_iconst (v := (1 : Int32)) hx hb dX2_costsBy_11 (by decide +kernel) ?_
      refine lv_iadd hx hb dX2_costsBy_12 ?_
      refine lv_icmp_gt (tgt := 42) hx hb dX2_costsBy_13 (by decide) (fun c13 => ?_) (fun c13 => ?_)
      · replace h := h.1 c13
        refine lv_lload_n hx hb dX2_costsBy_42 rfl (lv_at hl 3 rfl) ?_
        rw [hQ]
        exact rt_l () hx hb hr hlocks h hP hD hS dX2_costsBy_43
      · replace h := h.2 c13
        refine lv_lload_n hx hb dX2_costsBy_16 rfl (lv_at hl 3 rfl) ?_
        refine lv_aload_n hx hb dX2_costsBy_17 rfl (lv_at hl 0 rfl) ?_
        refine va_get (D := (dC, dI)) (ci := 2) (v := .ref a_op) (C := RX2) (T := TX2) (N := 2) hx hb hts (fun _ h => List.mem_cons_of_mem _ (List.mem_append_left _ (List.mem_append_left _ (List.mem_append_left _ (List.mem_append_right _ h))))) hown hK hP 3 rfl rfl 0 (by decide) (hts (.fieldLink RX2 9 "RentOrBuy$Lots" "ofPlans" "[I") (List.mem_cons_of_mem _ (List.mem_append_left _ (List.mem_append_left _ (List.mem_append_left _ (List.mem_append_left _ (List.mem_append_left _ (List.mem_of_getElem? (i := 0) rfl)))))))) (fun _ h9 => h9) rfl dX2_costsBy_18 ?_
        refine lv_iload hx hb dX2_costsBy_21 (lv_at hl 4 rfl) ?_
        obtain ⟨hi23, h⟩ := h
        refine va_iald hx hb hK hP 4 0 rfl rfl hi23 dX2_costsBy_23 ?_
        refine lv_i2l hx hb dX2_costsBy_24 rfl ?_
        refine lv_aload_n hx hb dX2_costsBy_25 rfl (lv_at hl 1 rfl) ?_
        refine lv_iload hx hb dX2_costsBy_26 (lv_at hl 4 rfl) ?_
        refine lv_iload_n hx hb dX2_costsBy_28 rfl (lv_at hl 2 rfl) ?_
        have hPc := hP.sub (ws' := [(a_pl, .inr (3, [.int days, .ref a_tk, .ref a_rs])), (a_tk, tkE tkk tkd tkp tkr tkc), (a_rs, .inl (kA, 41, .inl rsF))]) [0, 1, 2] rfl
        have hDc := hD.sub (ws' := [(a_pl, .inr (3, [.int days, .ref a_tk, .ref a_rs])), (a_tk, tkE tkk tkd tkp tkr tkc), (a_rs, .inl (kA, 41, .inl rsF))]) [0, 1, 2] (by decide) rfl
        refine fr_i (wr := [(a_lo, .inr (2, [.ref a_op, .ref a_oe])), (a_op, .inl (kA, 42, .inl opF))]) (WN := fun (u29 : Unit) => [(a_pl, .inr (3, [.int days, .ref a_tk, .ref a_rs])), (a_tk, tkE tkk tkd tkp tkr tkc), (a_rs, .inl (kA, 41, .inl rsF)), (a_lo, .inr (2, [.ref a_op, .ref a_oe])), (a_op, .inl (kA, 42, .inl opF))]) (va_runV (As := [.int v5_5, .int p2]) (rest := [.long ((opF v5_5.toNatClampNeg).toInt64), .long v3_5]) ⟨hx, hb, hml, hown, hts⟩ (c_X3_costOf l dC dI kA a_pl a_tk a_rs H.size days tkk tkd tkp tkr tkc rsF v5_5 p2 _ h) (cwV 2 hts gX2_costsBy_X3_costOf rfl rfl rfl (by decide +kernel) ⟨Nat.le_of_ble_eq_true rfl, Nat.le_of_ble_eq_true rfl⟩) (prW.preV (ci := 3) (q0 := 0) hPc hDc hK hN rfl rfl) rfl rfl hl.1 rfl (lv_room (Nat.le_of_ble_eq_true rfl)) dX2_costsBy_29 ⟨Nat.le_of_ble_eq_true rfl, Nat.le_of_ble_eq_true rfl⟩) hP hD hS hA [0, 1, 2] [3, 4] rfl rfl (by decide) (by decide) [2, 3, 4, 0, 1] (by decide) (fun _ => rfl) (fun r29 u29 H locs h hP hD hS => ?_)
        have hP : va_P (dC, dI) vwCl [(a_pl, .inr (3, [.int days, .ref a_tk, .ref a_rs])), (a_tk, tkE tkk tkd tkp tkr tkc), (a_rs, .inl (kA, 41, .inl rsF)), (a_lo, .inr (2, [.ref a_op, .ref a_oe])), (a_op, .inl (kA, 42, .inl opF))] H := hP
        have hD : va_D A [(a_pl, .inr (3, [.int days, .ref a_tk, .ref a_rs])), (a_tk, tkE tkk tkd tkp tkr tkc), (a_rs, .inl (kA, 41, .inl rsF)), (a_lo, .inr (2, [.ref a_op, .ref a_oe])), (a_op, .inl (kA, 42, .inl opF))] := hD
        refine lv_i2l hx hb dX2_costsBy_32 rfl ?_
        refine lv_lmul hx hb dX2_costsBy_33 ?_
        refine lv_ladd hx hb dX2_costsBy_34 ?_
        refine lv_lstore_n (lv' := [(3, .long (v3_5 + (((opF v5_5.toNatClampNeg).toInt64) * r29.toInt64))), (0, .ref a_lo), (1, .ref a_pl), (2, .int p2), (5, .int v5_5)]) hx hb dX2_costsBy_35 rfl hl (by decide) rfl (fun ls hl => ?_)
        refine lv_iinc (v := (v5_5 + (1 : Int32))) (lv' := [(5, .int (v5_5 + (1 : Int32))), (3, .long (v3_5 + (((opF v5_5.toNatClampNeg).toInt64) * r29.toInt64))), (0, .ref a_lo), (1, .ref a_pl), (2, .int p2)]) hx hb dX2_costsBy_36 hl (k := 4) rfl (by rfl) (by decide) rfl (fun ls hl => ?_)
        refine lv_goto (tgt := 5) hx hb dX2_costsBy_39 (by decide) ?_
        exact ih5 (v3_5 + (((opF v5_5.toNatClampNeg).toInt64) * r29.toInt64)) (v5_5 + (1 : Int32)) h _ _ _ hP hD hS (lv_sub hl [2, 3, 4, 1, 0] rfl)
  exact hL5 n5 (0 : Int64) (1 : Int32) h _ _ _ hP hD hS (lv_sub hl [2, 3, 4, 1, 0] rfl)

/-- RentOrBuy$Lots.<init> -/
def rmX2_init : Room := { frames := 1, cells := 2, slots := 84, locals := 12 }
set_option maxHeartbeats 4000000 in
set_option maxRecDepth 100000 in
theorem c_X2_init (l : Launch) (dC : Nat → ClassId) (dI : Nat → Nat → Nat) (kA : ClassId) (a_lo : Nat) (sz : Nat)  (K : (Nat → Int32) → (Nat → Int32) → Prop) (hg : g_X2_init  K) : Met l yX2_init wsX2_init rmX2_init (va_Pc [.ref a_lo] (prW (dC, dI) kA sz [(a_lo, .inr (2, [.null, .null]))])) (va_Qv (fun (u : (Nat → Int32) × (Nat → Int32) × Nat × Nat) => K u.1 u.2.1) (poW (dC, dI) (va_A [(a_lo, .inr (2, [.null, .null]))] sz) (fun (u : (Nat → Int32) × (Nat → Int32) × Nat × Nat) => [(a_lo, .inr (2, [.ref u.2.2.1, .ref u.2.2.2])), (u.2.2.1, .inl (kA, 42, .inl u.1)), (u.2.2.2, .inl (kA, 42, .inl u.2.1))])) (va_A [(a_lo, .inr (2, [.null, .null]))] sz)) 2 84 (va_A [(a_lo, .inr (2, [.null, .null]))] sz) := by
  refine Met.ofW (cc := cX2_init) (maxL := 1) (ret := none) (by decide) rfl ?_
  intro p e s m args below meth c s₁ B hml hv
  obtain ⟨hargs, hsz, hP, hK, hD0, hN⟩ := hv
  have hx := B.exec
  have hb := B.bytes
  have hr := B.returns
  have hts := atoms_spec (ws := wsX2_init) B.pre
  have hown : s.vm.findClass RX2 = some m.cls := findClass_of_methodNamed B.named
  have hlocks := B.notSynchronized
  have hin : meth.name = "<init>" := (name_of_methodNamed B.named B.method).1
  subst hsz
  have hD := hD0.self (sz := s.heap.size)
  generalize hAe : va_A [(a_lo, .inr (2, [.null, .null]))] s.heap.size = A at hD ⊢
  have hA : ∀ q : Nat, s.heap.size ≤ q → A q := fun q h => by rw [← hAe]; exact Or.inr h
  have hS : va_S A s.heap s.heap [] := va_S.rf
  obtain ⟨Q, hQ⟩ : ∃ Q : State → Prop, Q = MQ below (va_Qv (fun (u : (Nat → Int32) × (Nat → Int32) × Nat × Nat) => K u.1 u.2.1) (poW (dC, dI) A (fun (u : (Nat → Int32) × (Nat → Int32) × Nat × Nat) => [(a_lo, .inr (2, [.ref u.2.2.1, .ref u.2.2.2])), (u.2.2.1, .inl (kA, 42, .inl u.1)), (u.2.2.2, .inl (kA, 42, .inl u.2.1))])) A) args s 2 84 A := ⟨_, rfl⟩
  rw [← hQ]
  have hP : va_P (dC, dI) vwCl [(a_lo, .inr (2, [.null, .null]))] s.heap := hP
  refine en_ok hargs (Nat.le_of_ble_eq_true rfl) (fun ls hl => ?_)
  have hl : lv_has ls 1 [(0, .ref a_lo)] := hl
  have h := hg
  unfold g_X2_init at h
  refine lv_aload_n hx hb dX2_init_0 rfl (lv_at hl 0 rfl) ?_
  refine W.objInit hx hb hown (hts (.methodLink RX2 3 objectInit) (List.mem_cons_of_mem _ (List.mem_append_left _ (List.mem_of_getElem? (i := 0) rfl)))) (hts (.instanceMethod objectInit) (List.mem_cons_of_mem _ (List.mem_append_left _ (List.mem_of_getElem? (i := 1) rfl)))) (hts (.code objectInit ⟨#[0xb1]⟩ 1 none) (List.mem_cons_of_mem _ (List.mem_append_left _ (List.mem_of_getElem? (i := 2) rfl)))) rfl (by rw [hml]; exact hl.1) rfl dX2_init_1 (Nat.le_of_ble_eq_true rfl) (Nat.le_of_ble_eq_true rfl) ?_
  refine W.eq (g2 := F0 m 4 ls []) rfl ?_
  refine lv_aload_n hx hb dX2_init_4 rfl (lv_at hl 0 rfl) ?_
  refine lv_bipush (v := (42 : Int32)) hx hb dX2_init_5 (by decide +kernel) ?_
  refine na_i (N' := 42) hx hb (hts (.arrayClass .int) (List.mem_cons_of_mem _ (List.mem_append_left _ (List.mem_of_getElem? (i := 3) rfl)))) hK hP hD hS hA (by decide) (by decide +kernel) (by decide) (Nat.le_of_ble_eq_true rfl) (Nat.le_of_ble_eq_true rfl) dX2_init_7 (fun q7 H hP hD hS => ?_)
  have hP : va_P (dC, dI) vwCl [(a_lo, .inr (2, [.null, .null])), (q7, .inl (kA, 42, .inl (fun _ => (0 : Int32))))] H := hP
  have hD : va_D A [(a_lo, .inr (2, [.null, .null])), (q7, .inl (kA, 42, .inl (fun _ => (0 : Int32))))] := hD
  refine va_putF (D := (dC, dI)) (ci := 2) (v := .ref q7) (ty := (.array .int)) (C := RX2) (T := TX2) (N := 2) hx hb hts (fun _ h => List.mem_cons_of_mem _ (List.mem_append_right _ h)) tyX2 tyX2_ok nmX2 hown hK hP hD hS 0 rfl rfl 0 (by decide) (hts (.fieldLink RX2 9 "RentOrBuy$Lots" "ofPlans" "[I") (List.mem_cons_of_mem _ (List.mem_append_left _ (List.mem_of_getElem? (i := 4) rfl)))) (fun _ h9 => h9) rfl hin rfl (by decide +kernel) rfl rfl (Nat.le_of_ble_eq_true rfl) dX2_init_9 (fun H locs hP hD hS => ?_)
  have hP : va_P (dC, dI) vwCl [(a_lo, .inr (2, [.ref q7, .null])), (q7, .inl (kA, 42, .inl (fun _ => (0 : Int32))))] H := hP
  have hD : va_D A [(a_lo, .inr (2, [.ref q7, .null])), (q7, .inl (kA, 42, .inl (fun _ => (0 : Int32))))] := hD
  refine lv_aload_n hx hb dX2_init_12 rfl (lv_at hl 0 rfl) ?_
  refine lv_bipush (v := (42 : Int32)) hx hb dX2_init_13 (by decide +kernel) ?_
  refine na_i (N' := 42) hx hb (hts (.arrayClass .int) (List.mem_cons_of_mem _ (List.mem_append_left _ (List.mem_of_getElem? (i := 3) rfl)))) hK hP hD hS hA (by decide) (by decide +kernel) (by decide) (Nat.le_of_ble_eq_true rfl) (Nat.le_of_ble_eq_true rfl) dX2_init_15 (fun q15 H hP hD hS => ?_)
  have hP : va_P (dC, dI) vwCl [(a_lo, .inr (2, [.ref q7, .null])), (q7, .inl (kA, 42, .inl (fun _ => (0 : Int32)))), (q15, .inl (kA, 42, .inl (fun _ => (0 : Int32))))] H := hP
  have hD : va_D A [(a_lo, .inr (2, [.ref q7, .null])), (q7, .inl (kA, 42, .inl (fun _ => (0 : Int32)))), (q15, .inl (kA, 42, .inl (fun _ => (0 : Int32))))] := hD
  refine va_putF (D := (dC, dI)) (ci := 2) (v := .ref q15) (ty := (.array .int)) (C := RX2) (T := TX2) (N := 2) hx hb hts (fun _ h => List.mem_cons_of_mem _ (List.mem_append_right _ h)) tyX2 tyX2_ok nmX2 hown hK hP hD hS 0 rfl rfl 1 (by decide) (hts (.fieldLink RX2 15 "RentOrBuy$Lots" "ofEnds" "[I") (List.mem_cons_of_mem _ (List.mem_append_left _ (List.mem_of_getElem? (i := 5) rfl)))) (fun _ h9 => h9) rfl hin rfl (by decide +kernel) rfl rfl (Nat.le_of_ble_eq_true rfl) dX2_init_17 (fun H locs hP hD hS => ?_)
  have hP : va_P (dC, dI) vwCl [(a_lo, .inr (2, [.ref q7, .ref q15])), (q7, .inl (kA, 42, .inl (fun _ => (0 : Int32)))), (q15, .inl (kA, 42, .inl (fun _ => (0 : Int32))))] H := hP
  have hD : va_D A [(a_lo, .inr (2, [.ref q7, .ref q15])), (q7, .inl (kA, 42, .inl (fun _ => (0 : Int32)))), (q15, .inl (kA, 42, .inl (fun _ => (0 : Int32))))] := hD
  rw [hQ]
  exact rt_v ((fun _ => (0 : Int32)), (fun _ => (0 : Int32)), q7, q15) hx hb hr hlocks h hP hD hS dX2_init_20

/-- RentOrBuy$Plans.knownBy -/
def rmX3_knownBy : Room := { frames := 1, cells := 0, slots := 0, locals := 13 }
set_option maxHeartbeats 4000000 in
set_option maxRecDepth 100000 in
theorem c_X3_knownBy (l : Launch) (dC : Nat → ClassId) (dI : Nat → Nat → Nat) (kA : ClassId) (a_pl a_tk a_rs : Nat) (sz : Nat) (days : Int32) (tkk : Nat) (tkd : Int32) (tkp : Int32) (tkr : Int32) (tkc : Int32) (rsF : Nat → Int32) (p1 : Int32) (K : Int32 → Prop) (hg : g_X3_knownBy days tkk tkd tkp tkr tkc rsF p1 K) : Met l yX3_knownBy wsX3_knownBy rmX3_knownBy (va_Pc [.ref a_pl, .int p1] (prW (dC, dI) kA sz [(a_pl, .inr (3, [.int days, .ref a_tk, .ref a_rs])), (a_tk, tkE tkk tkd tkp tkr tkc), (a_rs, .inl (kA, 41, .inl rsF))])) (va_Qi (fun (r : Int32) (u : Unit) => K r) (poW (dC, dI) (va_A [(a_pl, .inr (3, [.int days, .ref a_tk, .ref a_rs])), (a_tk, tkE tkk tkd tkp tkr tkc), (a_rs, .inl (kA, 41, .inl rsF))] sz) (fun (u : Unit) => [(a_pl, .inr (3, [.int days, .ref a_tk, .ref a_rs])), (a_tk, tkE tkk tkd tkp tkr tkc), (a_rs, .inl (kA, 41, .inl rsF))])) (va_A [(a_pl, .inr (3, [.int days, .ref a_tk, .ref a_rs])), (a_tk, tkE tkk tkd tkp tkr tkc), (a_rs, .inl (kA, 41, .inl rsF))] sz)) 0 0 (va_A [(a_pl, .inr (3, [.int days, .ref a_tk, .ref a_rs])), (a_tk, tkE tkk tkd tkp tkr tkc), (a_rs, .inl (kA, 41, .inl rsF))] sz) := by
  refine Met.ofW (cc := cX3_knownBy) (maxL := 2) (ret := (some .int)) (by decide) rfl ?_
  intro p e s m args below meth c s₁ B hml hv
  obtain ⟨hargs, hsz, hP, hK, hD0, hN⟩ := hv
  have hx := B.exec
  have hb := B.bytes
  have hr := B.returns
  have hts := atoms_spec (ws := wsX3_knownBy) B.pre
  have hown : s.vm.findClass RX3 = some m.cls := findClass_of_methodNamed B.named
  have hlocks := B.notSynchronized
  subst hsz
  have hD := hD0.self (sz := s.heap.size)
  generalize hAe : va_A [(a_pl, .inr (3, [.int days, .ref a_tk, .ref a_rs])), (a_tk, tkE tkk tkd tkp tkr tkc), (a_rs, .inl (kA, 41, .inl rsF))] s.heap.size = A at hD ⊢
  have hA : ∀ q : Nat, s.heap.size ≤ q → A q := fun q h => by rw [← hAe]; exact Or.inr h
  have hS : va_S A s.heap s.heap [] := va_S.rf
  obtain ⟨Q, hQ⟩ : ∃ Q : State → Prop, Q = MQ below (va_Qi (fun (r : Int32) (u : Unit) => K r) (poW (dC, dI) A (fun (u : Unit) => [(a_pl, .inr (3, [.int days, .ref a_tk, .ref a_rs])), (a_tk, tkE tkk tkd tkp tkr tkc), (a_rs, .inl (kA, 41, .inl rsF))])) A) args s 0 0 A := ⟨_, rfl⟩
  rw [← hQ]
  have hP : va_P (dC, dI) vwCl [(a_pl, .inr (3, [.int days, .ref a_tk, .ref a_rs])), (a_tk, tkE tkk tkd tkp tkr tkc), (a_rs, .inl (kA, 41, .inl rsF))] s.heap := hP
  refine en_ok hargs (Nat.le_of_ble_eq_true rfl) (fun ls hl => ?_)
  have hl : lv_has ls 2 [(0, .ref a_pl), (1, .int p1)] := hl
  have h := hg
  unfold g_X3_knownBy at h
  refine lv_aload_n hx hb dX3_knownBy_0 rfl (lv_at hl 0 rfl) ?_
  refine va_get (D := (dC, dI)) (ci := 3) (v := .ref a_tk) (C := RX3) (T := TX3) (N := 3) hx hb hts (fun _ h => List.mem_cons_of_mem _ (List.mem_append_left _ (List.mem_append_left _ (List.mem_append_left _ (List.mem_append_right _ h))))) hown hK hP 0 rfl rfl 1 (by decide) (hts (.fieldLink RX3 20 "RentOrBuy$Plans" "taken" "LRentOrBuy$Flat;") (List.mem_cons_of_mem _ (List.mem_append_left _ (List.mem_append_left _ (List.mem_append_left _ (List.mem_append_left _ (List.mem_of_getElem? (i := 0) rfl))))))) (fun _ h9 => h9) rfl dX3_knownBy_1 ?_
  refine tk_price hx hb hts (fun _ h => List.mem_cons_of_mem _ (List.mem_append_left _ (List.mem_append_left _ (List.mem_append_right _ h)))) (fun _ h => List.mem_cons_of_mem _ (List.mem_append_left _ (List.mem_append_right _ h))) (fun _ h => List.mem_cons_of_mem _ (List.mem_append_right _ h)) hown hK hP hN 1 rfl dX3_knownBy_4 ?_
  refine lv_aload_n hx hb dX3_knownBy_7 rfl (lv_at hl 0 rfl) ?_
  refine va_get (D := (dC, dI)) (ci := 3) (v := .ref a_rs) (C := RX3) (T := TX3) (N := 3) hx hb hts (fun _ h => List.mem_cons_of_mem _ (List.mem_append_left _ (List.mem_append_left _ (List.mem_append_left _ (List.mem_append_right _ h))))) hown hK hP 0 rfl rfl 2 (by decide) (hts (.fieldLink RX3 24 "RentOrBuy$Plans" "rents" "[I") (List.mem_cons_of_mem _ (List.mem_append_left _ (List.mem_append_left _ (List.mem_append_left _ (List.mem_append_left _ (List.mem_of_getElem? (i := 1) rfl))))))) (fun _ h9 => h9) rfl dX3_knownBy_8 ?_
  refine lv_iload_n hx hb dX3_knownBy_11 rfl (lv_at hl 1 rfl) ?_
  obtain ⟨hi12, h⟩ := h
  refine va_iald hx hb hK hP 2 0 rfl rfl hi12 dX3_knownBy_12 ?_
  refine va_mmin hx hb (by rw [hml]; exact hl.1.symm) hown (hts (.methodLink RX3 39 Lib.Math.min.name) (List.mem_cons_of_mem _ (List.mem_append_left _ (List.mem_append_left _ (List.mem_append_left _ (List.mem_append_left _ (List.mem_of_getElem? (i := 2) rfl))))))) (hts (.static Lib.Math.min.name) (List.mem_cons_of_mem _ (List.mem_append_left _ (List.mem_append_left _ (List.mem_append_left _ (List.mem_append_left _ (List.mem_of_getElem? (i := 3) rfl))))))) (hts (.initialized "java/lang/Math") (List.mem_cons_of_mem _ (List.mem_append_left _ (List.mem_append_left _ (List.mem_append_left _ (List.mem_append_left _ (List.mem_of_getElem? (i := 4) rfl))))))) (hts (.code Lib.Math.min.name Lib.Math.min.code 2 (some .int)) (List.mem_cons_of_mem _ (List.mem_append_left _ (List.mem_append_left _ (List.mem_append_left _ (List.mem_append_left _ (List.mem_of_getElem? (i := 5) rfl))))))) (Nat.le_of_ble_eq_true rfl) (Nat.le_of_ble_eq_true rfl) (Nat.le_of_ble_eq_true rfl) (Nat.le_of_ble_eq_true rfl) dX3_knownBy_13 ?_
  rw [hQ]
  exact rt_i () hx hb hr hlocks h hP hD hS dX3_knownBy_16

/-- RentOrBuy.roundedDown -/
def rmX6_roundedDown : Room := { frames := 0, cells := 0, slots := 0, locals := 0 }
set_option maxHeartbeats 4000000 in
set_option maxRecDepth 100000 in
theorem c_X6_roundedDown (l : Launch) (dC : Nat → ClassId) (dI : Nat → Nat → Nat) (kA : ClassId) (sz : Nat) (p1 : Int64) (p2 : Int64) (K : Int64 → Prop) (hg : g_X6_roundedDown p1 p2 K) : Met l yX6_roundedDown wsX6_roundedDown rmX6_roundedDown (va_Pc [.long p1, .long p2] (prW (dC, dI) kA sz [])) (va_Ql (fun (r : Int64) (u : Unit) => K r) (poW (dC, dI) (va_A [] sz) (fun (u : Unit) => [])) (va_A [] sz)) 0 0 (va_A [] sz) := by
  refine Met.ofW (cc := cX6_roundedDown) (maxL := 4) (ret := (some .long)) (by decide) rfl ?_
  intro p e s m args below meth c s₁ B hml hv
  obtain ⟨hargs, hsz, hP, hK, hD0, hN⟩ := hv
  have hx := B.exec
  have hb := B.bytes
  have hr := B.returns
  have hts := atoms_spec (ws := wsX6_roundedDown) B.pre
  have hown : s.vm.findClass RX6 = some m.cls := findClass_of_methodNamed B.named
  have hlocks := B.notSynchronized
  subst hsz
  have hD := hD0.self (sz := s.heap.size)
  generalize hAe : va_A [] s.heap.size = A at hD ⊢
  have hA : ∀ q : Nat, s.heap.size ≤ q → A q := fun q h => by rw [← hAe]; exact Or.inr h
  have hS : va_S A s.heap s.heap [] := va_S.rf
  obtain ⟨Q, hQ⟩ : ∃ Q : State → Prop, Q = MQ below (va_Ql (fun (r : Int64) (u : Unit) => K r) (poW (dC, dI) A (fun (u : Unit) => [])) A) args s 0 0 A := ⟨_, rfl⟩
  rw [← hQ]
  have hP : va_P (dC, dI) vwCl [] s.heap := hP
  refine en_ok hargs (Nat.le_of_ble_eq_true rfl) (fun ls hl => ?_)
  have hl : lv_has ls 4 [(0, .long p1), (2, .long p2)] := hl
  have h := hg
  unfold g_X6_roundedDown at h
  refine lv_lload_n hx hb dX6_roundedDown_0 rfl (lv_at hl 1 rfl) ?_
  refine lv_lconst (v := (0 : Int64)) hx hb dX6_roundedDown_1 (by decide +kernel) ?_
  refine W.lcmp hx hb dX6_roundedDown_2 ?_
  refine lv_if_le (tgt := 12) hx hb dX6_roundedDown_3 (by decide) (fun c3 => ?_) (fun c3 => ?_)
  · replace h := h.1 c3
    refine lv_lconst (v := (0 : Int64)) hx hb dX6_roundedDown_12 (by decide +kernel) ?_
    rw [hQ]
    exact rt_l () hx hb hr hlocks h hP hD hS dX6_roundedDown_13
  · replace h := h.2 c3
    refine lv_lload_n hx hb dX6_roundedDown_6 rfl (lv_at hl 0 rfl) ?_
    refine lv_lload_n hx hb dX6_roundedDown_7 rfl (lv_at hl 1 rfl) ?_
    obtain ⟨hz8, h⟩ := h
    refine lv_ldiv hx hb dX6_roundedDown_8 hz8 ?_
    refine lv_goto (tgt := 13) hx hb dX6_roundedDown_9 (by decide) ?_
    rw [hQ]
    exact rt_l () hx hb hr hlocks h hP hD hS dX6_roundedDown_13

/-- RentOrBuy$Lots.millionthsOf -/
def rmX2_millionthsOf : Room := { frames := 2, cells := 0, slots := 0, locals := 34 }
set_option maxHeartbeats 4000000 in
set_option maxRecDepth 100000 in
theorem c_X2_millionthsOf (l : Launch) (dC : Nat → ClassId) (dI : Nat → Nat → Nat) (kA : ClassId) (a_pl a_tk a_rs a_lo a_oe a_op : Nat) (sz : Nat) (days : Int32) (tkk : Nat) (tkd : Int32) (tkp : Int32) (tkr : Int32) (tkc : Int32) (rsF : Nat → Int32) (oeF : Nat → Int32) (p2 : Int32) (K : Int64 → Prop) (hg : g_X2_millionthsOf days tkk tkd tkp tkr tkc rsF oeF p2 K) : Met l yX2_millionthsOf wsX2_millionthsOf rmX2_millionthsOf (va_Pc [.ref a_lo, .ref a_pl, .int p2] (prW (dC, dI) kA sz [(a_pl, .inr (3, [.int days, .ref a_tk, .ref a_rs])), (a_tk, tkE tkk tkd tkp tkr tkc), (a_rs, .inl (kA, 41, .inl rsF)), (a_lo, .inr (2, [.ref a_op, .ref a_oe])), (a_oe, .inl (kA, 42, .inl oeF))])) (va_Ql (fun (r : Int64) (u : Unit) => K r) (poW (dC, dI) (va_A [(a_pl, .inr (3, [.int days, .ref a_tk, .ref a_rs])), (a_tk, tkE tkk tkd tkp tkr tkc), (a_rs, .inl (kA, 41, .inl rsF)), (a_lo, .inr (2, [.ref a_op, .ref a_oe])), (a_oe, .inl (kA, 42, .inl oeF))] sz) (fun (u : Unit) => [(a_pl, .inr (3, [.int days, .ref a_tk, .ref a_rs])), (a_tk, tkE tkk tkd tkp tkr tkc), (a_rs, .inl (kA, 41, .inl rsF)), (a_lo, .inr (2, [.ref a_op, .ref a_oe])), (a_oe, .inl (kA, 42, .inl oeF))])) (va_A [(a_pl, .inr (3, [.int days, .ref a_tk, .ref a_rs])), (a_tk, tkE tkk tkd tkp tkr tkc), (a_rs, .inl (kA, 41, .inl rsF)), (a_lo, .inr (2, [.ref a_op, .ref a_oe])), (a_oe, .inl (kA, 42, .inl oeF))] sz)) 0 0 (va_A [(a_pl, .inr (3, [.int days, .ref a_tk, .ref a_rs])), (a_tk, tkE tkk tkd tkp tkr tkc), (a_rs, .inl (kA, 41, .inl rsF)), (a_lo, .inr (2, [.ref a_op, .ref a_oe])), (a_oe, .inl (kA, 42, .inl oeF))] sz) := by
  refine Met.ofW (cc := cX2_millionthsOf) (maxL := 6) (ret := (some .long)) (by decide) rfl ?_
  intro p e s m args below meth c s₁ B hml hv
  obtain ⟨hargs, hsz, hP, hK, hD0, hN⟩ := hv
  have hx := B.exec
  have hb := B.bytes
  have hr := B.returns
  have hts := atoms_spec (ws := wsX2_millionthsOf) B.pre
  have hown : s.vm.findClass RX2 = some m.cls := findClass_of_methodNamed B.named
  have hlocks := B.notSynchronized
  subst hsz
  have hD := hD0.self (sz := s.heap.size)
  generalize hAe : va_A [(a_pl, .inr (3, [.int days, .ref a_tk, .ref a_rs])), (a_tk, tkE tkk tkd tkp tkr tkc), (a_rs, .inl (kA, 41, .inl rsF)), (a_lo, .inr (2, [.ref a_op, .ref a_oe])), (a_oe, .inl (kA, 42, .inl oeF))] s.heap.size = A at hD ⊢
  have hA : ∀ q : Nat, s.heap.size ≤ q → A q := fun q h => by rw [← hAe]; exact Or.inr h
  have hS : va_S A s.heap s.heap [] := va_S.rf
  obtain ⟨Q, hQ⟩ : ∃ Q : State → Prop, Q = MQ below (va_Ql (fun (r : Int64) (u : Unit) => K r) (poW (dC, dI) A (fun (u : Unit) => [(a_pl, .inr (3, [.int days, .ref a_tk, .ref a_rs])), (a_tk, tkE tkk tkd tkp tkr tkc), (a_rs, .inl (kA, 41, .inl rsF)), (a_lo, .inr (2, [.ref a_op, .ref a_oe])), (a_oe, .inl (kA, 42, .inl oeF))])) A) args s 0 0 A := ⟨_, rfl⟩
  rw [← hQ]
  have hP : va_P (dC, dI) vwCl [(a_pl, .inr (3, [.int days, .ref a_tk, .ref a_rs])), (a_tk, tkE tkk tkd tkp tkr tkc), (a_rs, .inl (kA, 41, .inl rsF)), (a_lo, .inr (2, [.ref a_op, .ref a_oe])), (a_oe, .inl (kA, 42, .inl oeF))] s.heap := hP
  refine en_ok hargs (Nat.le_of_ble_eq_true rfl) (fun ls hl => ?_)
  have hl : lv_has ls 6 [(0, .ref a_lo), (1, .ref a_pl), (2, .int p2)] := hl
  have h := hg
  unfold g_X2_millionthsOf at h
  refine lv_lconst (v := (0 : Int64)) hx hb dX2_millionthsOf_0 (by decide +kernel) ?_
  refine lv_lstore_n (lv' := [(3, .long (0 : Int64)), (0, .ref a_lo), (1, .ref a_pl), (2, .int p2)]) hx hb dX2_millionthsOf_1 rfl hl (by decide) rfl (fun ls hl => ?_)
  refine lv_iconst (v := (1 : Int32)) hx hb dX2_millionthsOf_2 (by decide +kernel) ?_
  refine lv_istore (lv' := [(5, .int (1 : Int32)), (3, .long (0 : Int64)), (0, .ref a_lo), (1, .ref a_pl), (2, .int p2)]) hx hb dX2_millionthsOf_3 hl (by decide) rfl (fun ls hl => ?_)
  obtain ⟨J5, ⟨n5, h⟩, hz5, hs5⟩ := h
  have hL5 : ∀ (n5 : Nat) (v3_5 : Int64) (v5_5 : Int32), J5 n5 v3_5 v5_5 → ∀ (H : Heap) (locs : List Loc) (ls : Array Slot), va_P (dC, dI) vwCl [(a_pl, .inr (3, [.int days, .ref a_tk, .ref a_rs])), (a_tk, tkE tkk tkd tkp tkr tkc), (a_rs, .inl (kA, 41, .inl rsF)), (a_lo, .inr (2, [.ref a_op, .ref a_oe])), (a_oe, .inl (kA, 42, .inl oeF))] H → va_D A [(a_pl, .inr (3, [.int days, .ref a_tk, .ref a_rs])), (a_tk, tkE tkk tkd tkp tkr tkc), (a_rs, .inl (kA, 41, .inl rsF)), (a_lo, .inr (2, [.ref a_op, .ref a_oe])), (a_oe, .inl (kA, 42, .inl oeF))] → va_S A s.heap H locs → lv_has ls 6 [(0, .ref a_lo), (1, .ref a_pl), (2, .int p2), (3, .long v3_5), (5, .int v5_5)] → W p l e (headSpec wsX2_millionthsOf rmX2_millionthsOf).room s m args below meth c H locs 0 0 Q (F0 m 5 ls []) := by
    intro n5
    induction n5 with
    | zero => intro v3_5 v5_5 h; exact absurd h (hz5 v3_5 v5_5)
    | succ n5 ih5 =>
      intro v3_5 v5_5 h H locs ls hP hD hS hl
      replace h := hs5 n5 v3_5 v5_5 h
      refine lv_iload hx hb dX2_millionthsOf_5 (lv_at hl 4 rfl) ?_
      refine lv_aload_n hx hb dX2_millionthsOf_7 rfl (lv_at hl 1 rfl) ?_
      refine va_getN (D := (dC, dI)) (ci := 3) (v := .int days) (C := RX3) (T := TX3) (N := 3) hx hb hts (fun _ h => List.mem_cons_of_mem _ (List.mem_append_left _ (List.mem_append_left _ (List.mem_append_left _ (List.mem_append_left _ (List.mem_append_right _ h)))))) hown hK hP 0 rfl rfl 0 (by decide) (hN.f 2 rfl) (fun _ h9 => h9) rfl dX2_millionthsOf_8 ?_
      refine lv_icmp_gt (tgt := 54) hx hb dX2_millionthsOf_11 (by decide) (fun c11 => ?_) (fun c11 => ?_)
      · replace h := h.1 c11
        refine lv_lload_n hx hb dX2_millionthsOf_54 rfl (lv_at hl 3 rfl) ?_
        rw [hQ]
        exact rt_l () hx hb hr hlocks h hP hD hS dX2_millionthsOf_55
      · replace h := h.2 c11
        refine lv_lload_n hx hb dX2_millionthsOf_14 rfl (lv_at hl 3 rfl) ?_
        refine lv_aload_n hx hb dX2_millionthsOf_15 rfl (lv_at hl 0 rfl) ?_
        refine va_get (D := (dC, dI)) (ci := 2) (v := .ref a_oe) (C := RX2) (T := TX2) (N := 2) hx hb hts (fun _ h => List.mem_cons_of_mem _ (List.mem_append_left _ (List.mem_append_left _ (List.mem_append_left _ (List.mem_append_right _ h))))) hown hK hP 3 rfl rfl 1 (by decide) (hts (.fieldLink RX2 15 "RentOrBuy$Lots" "ofEnds" "[I") (List.mem_cons_of_mem _ (List.mem_append_left _ (List.mem_append_left _ (List.mem_append_left _ (List.mem_append_left _ (List.mem_append_left _ (List.mem_of_getElem? (i := 0) rfl)))))))) (fun _ h9 => h9) rfl dX2_millionthsOf_16 ?_
        refine lv_iload hx hb dX2_millionthsOf_19 (lv_at hl 4 rfl) ?_
        obtain ⟨hi21, h⟩ := h
        refine va_iald hx hb hK hP 4 0 rfl rfl hi21 dX2_millionthsOf_21 ?_
        refine lv_i2l hx hb dX2_millionthsOf_22 rfl ?_
        refine lv_aload_n hx hb dX2_millionthsOf_23 rfl (lv_at hl 1 rfl) ?_
        refine lv_iload_n hx hb dX2_millionthsOf_24 rfl (lv_at hl 2 rfl) ?_
        refine lv_iload hx hb dX2_millionthsOf_25 (lv_at hl 4 rfl) ?_
        have hPc := hP.sub (ws' := [(a_pl, .inr (3, [.int days, .ref a_tk, .ref a_rs])), (a_tk, tkE tkk tkd tkp tkr tkc), (a_rs, .inl (kA, 41, .inl rsF))]) [0, 1, 2] rfl
        have hDc := hD.sub (ws' := [(a_pl, .inr (3, [.int days, .ref a_tk, .ref a_rs])), (a_tk, tkE tkk tkd tkp tkr tkc), (a_rs, .inl (kA, 41, .inl rsF))]) [0, 1, 2] (by decide) rfl
        refine fr_i (wr := [(a_lo, .inr (2, [.ref a_op, .ref a_oe])), (a_oe, .inl (kA, 42, .inl oeF))]) (WN := fun (u27 : Unit) => [(a_pl, .inr (3, [.int days, .ref a_tk, .ref a_rs])), (a_tk, tkE tkk tkd tkp tkr tkc), (a_rs, .inl (kA, 41, .inl rsF)), (a_lo, .inr (2, [.ref a_op, .ref a_oe])), (a_oe, .inl (kA, 42, .inl oeF))]) (va_runV (As := [.int p2, .int v5_5]) (rest := [.long ((oeF v5_5.toNatClampNeg).toInt64), .long v3_5]) ⟨hx, hb, hml, hown, hts⟩ (c_X3_costOf l dC dI kA a_pl a_tk a_rs H.size days tkk tkd tkp tkr tkc rsF p2 v5_5 _ h) (cwV 2 hts gX2_millionthsOf_X3_costOf rfl rfl rfl (by decide +kernel) ⟨Nat.le_of_ble_eq_true rfl, Nat.le_of_ble_eq_true rfl⟩) (prW.preV (ci := 3) (q0 := 0) hPc hDc hK hN rfl rfl) rfl rfl hl.1 rfl (lv_room (Nat.le_of_ble_eq_true rfl)) dX2_millionthsOf_27 ⟨Nat.le_of_ble_eq_true rfl, Nat.le_of_ble_eq_true rfl⟩) hP hD hS hA [0, 1, 2] [3, 4] rfl rfl (by decide) (by decide) [2, 3, 4, 0, 1] (by decide) (fun _ => rfl) (fun r27 u27 H locs h hP hD hS => ?_)
        have hP : va_P (dC, dI) vwCl [(a_pl, .inr (3, [.int days, .ref a_tk, .ref a_rs])), (a_tk, tkE tkk tkd tkp tkr tkc), (a_rs, .inl (kA, 41, .inl rsF)), (a_lo, .inr (2, [.ref a_op, .ref a_oe])), (a_oe, .inl (kA, 42, .inl oeF))] H := hP
        have hD : va_D A [(a_pl, .inr (3, [.int days, .ref a_tk, .ref a_rs])), (a_tk, tkE tkk tkd tkp tkr tkc), (a_rs, .inl (kA, 41, .inl rsF)), (a_lo, .inr (2, [.ref a_op, .ref a_oe])), (a_oe, .inl (kA, 42, .inl oeF))] := hD
        refine lv_i2l hx hb dX2_millionthsOf_30 rfl ?_
        refine lv_ldc2 (v := (1000000 : Int64)) hx hb hown (hts (.constantLong RX2 56 (1000000)) (List.mem_cons_of_mem _ (List.mem_append_left _ (List.mem_append_left _ (List.mem_append_left _ (List.mem_append_left _ (List.mem_append_left _ (List.mem_of_getElem? (i := 1) rfl)))))))) dX2_millionthsOf_31 ?_
        refine lv_lmul hx hb dX2_millionthsOf_34 ?_
        refine lv_aload_n hx hb dX2_millionthsOf_35 rfl (lv_at hl 1 rfl) ?_
        refine lv_iload hx hb dX2_millionthsOf_36 (lv_at hl 4 rfl) ?_
        have hPc := hP.sub (ws' := [(a_pl, .inr (3, [.int days, .ref a_tk, .ref a_rs])), (a_tk, tkE tkk tkd tkp tkr tkc), (a_rs, .inl (kA, 41, .inl rsF))]) [0, 1, 2] rfl
        have hDc := hD.sub (ws' := [(a_pl, .inr (3, [.int days, .ref a_tk, .ref a_rs])), (a_tk, tkE tkk tkd tkp tkr tkc), (a_rs, .inl (kA, 41, .inl rsF))]) [0, 1, 2] (by decide) rfl
        refine fr_i (wr := [(a_lo, .inr (2, [.ref a_op, .ref a_oe])), (a_oe, .inl (kA, 42, .inl oeF))]) (WN := fun (u38 : Unit) => [(a_pl, .inr (3, [.int days, .ref a_tk, .ref a_rs])), (a_tk, tkE tkk tkd tkp tkr tkc), (a_rs, .inl (kA, 41, .inl rsF)), (a_lo, .inr (2, [.ref a_op, .ref a_oe])), (a_oe, .inl (kA, 42, .inl oeF))]) (va_runV (As := [.int v5_5]) (rest := [.long (r27.toInt64 * (1000000 : Int64)), .long ((oeF v5_5.toNatClampNeg).toInt64), .long v3_5]) ⟨hx, hb, hml, hown, hts⟩ (c_X3_knownBy l dC dI kA a_pl a_tk a_rs H.size days tkk tkd tkp tkr tkc rsF v5_5 _ h) (cwV 1 hts gX2_millionthsOf_X3_knownBy rfl rfl rfl (by decide +kernel) ⟨Nat.le_of_ble_eq_true rfl, Nat.le_of_ble_eq_true rfl⟩) (prW.preV (ci := 3) (q0 := 0) hPc hDc hK hN rfl rfl) rfl rfl hl.1 rfl (lv_room (Nat.le_of_ble_eq_true rfl)) dX2_millionthsOf_38 ⟨Nat.le_of_ble_eq_true rfl, Nat.le_of_ble_eq_true rfl⟩) hP hD hS hA [0, 1, 2] [3, 4] rfl rfl (by decide) (by decide) [2, 3, 4, 0, 1] (by decide) (fun _ => rfl) (fun r38 u38 H locs h hP hD hS => ?_)
        have hP : va_P (dC, dI) vwCl [(a_pl, .inr (3, [.int days, .ref a_tk, .ref a_rs])), (a_tk, tkE tkk tkd tkp tkr tkc), (a_rs, .inl (kA, 41, .inl rsF)), (a_lo, .inr (2, [.ref a_op, .ref a_oe])), (a_oe, .inl (kA, 42, .inl oeF))] H := hP
        have hD : va_D A [(a_pl, .inr (3, [.int days, .ref a_tk, .ref a_rs])), (a_tk, tkE tkk tkd tkp tkr tkc), (a_rs, .inl (kA, 41, .inl rsF)), (a_lo, .inr (2, [.ref a_op, .ref a_oe])), (a_oe, .inl (kA, 42, .inl oeF))] := hD
        refine lv_i2l hx hb dX2_millionthsOf_41 rfl ?_
        have hPc := hP.sub (ws' := []) [] rfl
        have hDc := hD.sub (ws' := []) [] (by decide) rfl
        refine fr_l (wr := [(a_pl, .inr (3, [.int days, .ref a_tk, .ref a_rs])), (a_tk, tkE tkk tkd tkp tkr tkc), (a_rs, .inl (kA, 41, .inl rsF)), (a_lo, .inr (2, [.ref a_op, .ref a_oe])), (a_oe, .inl (kA, 42, .inl oeF))]) (WN := fun (u42 : Unit) => [(a_pl, .inr (3, [.int days, .ref a_tk, .ref a_rs])), (a_tk, tkE tkk tkd tkp tkr tkc), (a_rs, .inl (kA, 41, .inl rsF)), (a_lo, .inr (2, [.ref a_op, .ref a_oe])), (a_oe, .inl (kA, 42, .inl oeF))]) (va_runSN (As := [.long (r27.toInt64 * (1000000 : Int64)), .long r38.toInt64]) (rest := [.long ((oeF v5_5.toNatClampNeg).toInt64), .long v3_5]) ⟨hx, hb, hml, hown, hts⟩ (c_X6_roundedDown l dC dI kA H.size (r27.toInt64 * (1000000 : Int64)) r38.toInt64 _ h) ⟨va_cnB 2 hts gX2_millionthsOf_X6_roundedDown_n53 rfl rfl rfl (hN.m 3 rfl) (hts (.initialized RX6) (List.mem_cons_of_mem _ (List.mem_append_left _ (List.mem_append_left _ (List.mem_append_left _ (List.mem_append_left _ (List.mem_append_left _ (List.mem_of_getElem? (i := 18) rfl)))))))) (by decide +kernel) ⟨Nat.le_of_ble_eq_true rfl, Nat.le_of_ble_eq_true rfl⟩, (hts (.static yX6_roundedDown) (List.mem_cons_of_mem _ (List.mem_append_left _ (List.mem_append_left _ (List.mem_append_left _ (List.mem_append_left _ (List.mem_append_left _ (List.mem_of_getElem? (i := 17) rfl)))))))), trivial⟩ (prW.preS hPc hDc hK hN) rfl rfl hl.1 rfl (lv_room (Nat.le_of_ble_eq_true rfl)) dX2_millionthsOf_42 ⟨Nat.le_of_ble_eq_true rfl, Nat.le_of_ble_eq_true rfl⟩) hP hD hS hA [] [0, 1, 2, 3, 4] rfl rfl (by decide) (by decide) [0, 1, 2, 3, 4] (by decide) (fun _ => rfl) (fun r42 u42 H locs h hP hD hS => ?_)
        have hP : va_P (dC, dI) vwCl [(a_pl, .inr (3, [.int days, .ref a_tk, .ref a_rs])), (a_tk, tkE tkk tkd tkp tkr tkc), (a_rs, .inl (kA, 41, .inl rsF)), (a_lo, .inr (2, [.ref a_op, .ref a_oe])), (a_oe, .inl (kA, 42, .inl oeF))] H := hP
        have hD : va_D A [(a_pl, .inr (3, [.int days, .ref a_tk, .ref a_rs])), (a_tk, tkE tkk tkd tkp tkr tkc), (a_rs, .inl (kA, 41, .inl rsF)), (a_lo, .inr (2, [.ref a_op, .ref a_oe])), (a_oe, .inl (kA, 42, .inl oeF))] := hD
        refine lv_lmul hx hb dX2_millionthsOf_45 ?_
        refine lv_ladd hx hb dX2_millionthsOf_46 ?_
        refine lv_lstore_n (lv' := [(3, .long (v3_5 + (((oeF v5_5.toNatClampNeg).toInt64) * r42))), (0, .ref a_lo), (1, .ref a_pl), (2, .int p2), (5, .int v5_5)]) hx hb dX2_millionthsOf_47 rfl hl (by decide) rfl (fun ls hl => ?_)
        refine lv_iinc (v := (v5_5 + (1 : Int32))) (lv' := [(5, .int (v5_5 + (1 : Int32))), (3, .long (v3_5 + (((oeF v5_5.toNatClampNeg).toInt64) * r42))), (0, .ref a_lo), (1, .ref a_pl), (2, .int p2)]) hx hb dX2_millionthsOf_48 hl (k := 4) rfl (by rfl) (by decide) rfl (fun ls hl => ?_)
        refine lv_goto (tgt := 5) hx hb dX2_millionthsOf_51 (by decide) ?_
        exact ih5 (v3_5 + (((oeF v5_5.toNatClampNeg).toInt64) * r42)) (v5_5 + (1 : Int32)) h _ _ _ hP hD hS (lv_sub hl [2, 3, 4, 1, 0] rfl)
  exact hL5 n5 (0 : Int64) (1 : Int32) h _ _ _ hP hD hS (lv_sub hl [2, 3, 4, 1, 0] rfl)

/-- RentOrBuy$Lots.lowerBound -/
def rmX2_lowerBound : Room := { frames := 3, cells := 0, slots := 0, locals := 59 }
set_option maxHeartbeats 4000000 in
set_option maxRecDepth 100000 in
theorem c_X2_lowerBound (l : Launch) (dC : Nat → ClassId) (dI : Nat → Nat → Nat) (kA : ClassId) (a_pl a_tk a_rs a_lo a_oe a_op : Nat) (sz : Nat) (days : Int32) (tkk : Nat) (tkd : Int32) (tkp : Int32) (tkr : Int32) (tkc : Int32) (rsF : Nat → Int32) (oeF : Nat → Int32) (p2 : Int32) (K : Int64 → Prop) (hg : g_X2_lowerBound days tkk tkd tkp tkr tkc rsF oeF p2 K) : Met l yX2_lowerBound wsX2_lowerBound rmX2_lowerBound (va_Pc [.ref a_lo, .ref a_pl, .int p2] (prW (dC, dI) kA sz [(a_pl, .inr (3, [.int days, .ref a_tk, .ref a_rs])), (a_tk, tkE tkk tkd tkp tkr tkc), (a_rs, .inl (kA, 41, .inl rsF)), (a_lo, .inr (2, [.ref a_op, .ref a_oe])), (a_oe, .inl (kA, 42, .inl oeF))])) (va_Ql (fun (r : Int64) (u : Unit) => K r) (poW (dC, dI) (va_A [(a_pl, .inr (3, [.int days, .ref a_tk, .ref a_rs])), (a_tk, tkE tkk tkd tkp tkr tkc), (a_rs, .inl (kA, 41, .inl rsF)), (a_lo, .inr (2, [.ref a_op, .ref a_oe])), (a_oe, .inl (kA, 42, .inl oeF))] sz) (fun (u : Unit) => [(a_pl, .inr (3, [.int days, .ref a_tk, .ref a_rs])), (a_tk, tkE tkk tkd tkp tkr tkc), (a_rs, .inl (kA, 41, .inl rsF)), (a_lo, .inr (2, [.ref a_op, .ref a_oe])), (a_oe, .inl (kA, 42, .inl oeF))])) (va_A [(a_pl, .inr (3, [.int days, .ref a_tk, .ref a_rs])), (a_tk, tkE tkk tkd tkp tkr tkc), (a_rs, .inl (kA, 41, .inl rsF)), (a_lo, .inr (2, [.ref a_op, .ref a_oe])), (a_oe, .inl (kA, 42, .inl oeF))] sz)) 0 0 (va_A [(a_pl, .inr (3, [.int days, .ref a_tk, .ref a_rs])), (a_tk, tkE tkk tkd tkp tkr tkc), (a_rs, .inl (kA, 41, .inl rsF)), (a_lo, .inr (2, [.ref a_op, .ref a_oe])), (a_oe, .inl (kA, 42, .inl oeF))] sz) := by
  refine Met.ofW (cc := cX2_lowerBound) (maxL := 6) (ret := (some .long)) (by decide) rfl ?_
  intro p e s m args below meth c s₁ B hml hv
  obtain ⟨hargs, hsz, hP, hK, hD0, hN⟩ := hv
  have hx := B.exec
  have hb := B.bytes
  have hr := B.returns
  have hts := atoms_spec (ws := wsX2_lowerBound) B.pre
  have hown : s.vm.findClass RX2 = some m.cls := findClass_of_methodNamed B.named
  have hlocks := B.notSynchronized
  subst hsz
  have hD := hD0.self (sz := s.heap.size)
  generalize hAe : va_A [(a_pl, .inr (3, [.int days, .ref a_tk, .ref a_rs])), (a_tk, tkE tkk tkd tkp tkr tkc), (a_rs, .inl (kA, 41, .inl rsF)), (a_lo, .inr (2, [.ref a_op, .ref a_oe])), (a_oe, .inl (kA, 42, .inl oeF))] s.heap.size = A at hD ⊢
  have hA : ∀ q : Nat, s.heap.size ≤ q → A q := fun q h => by rw [← hAe]; exact Or.inr h
  have hS : va_S A s.heap s.heap [] := va_S.rf
  obtain ⟨Q, hQ⟩ : ∃ Q : State → Prop, Q = MQ below (va_Ql (fun (r : Int64) (u : Unit) => K r) (poW (dC, dI) A (fun (u : Unit) => [(a_pl, .inr (3, [.int days, .ref a_tk, .ref a_rs])), (a_tk, tkE tkk tkd tkp tkr tkc), (a_rs, .inl (kA, 41, .inl rsF)), (a_lo, .inr (2, [.ref a_op, .ref a_oe])), (a_oe, .inl (kA, 42, .inl oeF))])) A) args s 0 0 A := ⟨_, rfl⟩
  rw [← hQ]
  have hP : va_P (dC, dI) vwCl [(a_pl, .inr (3, [.int days, .ref a_tk, .ref a_rs])), (a_tk, tkE tkk tkd tkp tkr tkc), (a_rs, .inl (kA, 41, .inl rsF)), (a_lo, .inr (2, [.ref a_op, .ref a_oe])), (a_oe, .inl (kA, 42, .inl oeF))] s.heap := hP
  refine en_ok hargs (Nat.le_of_ble_eq_true rfl) (fun ls hl => ?_)
  have hl : lv_has ls 6 [(0, .ref a_lo), (1, .ref a_pl), (2, .int p2)] := hl
  have h := hg
  unfold g_X2_lowerBound at h
  refine lv_aload_n hx hb dX2_lowerBound_0 rfl (lv_at hl 0 rfl) ?_
  refine lv_aload_n hx hb dX2_lowerBound_1 rfl (lv_at hl 1 rfl) ?_
  refine lv_iconst (v := (1 : Int32)) hx hb dX2_lowerBound_2 (by decide +kernel) ?_
  have hPc := hP.sub (ws' := [(a_pl, .inr (3, [.int days, .ref a_tk, .ref a_rs])), (a_tk, tkE tkk tkd tkp tkr tkc), (a_rs, .inl (kA, 41, .inl rsF)), (a_lo, .inr (2, [.ref a_op, .ref a_oe])), (a_oe, .inl (kA, 42, .inl oeF))]) [0, 1, 2, 3, 4] rfl
  have hDc := hD.sub (ws' := [(a_pl, .inr (3, [.int days, .ref a_tk, .ref a_rs])), (a_tk, tkE tkk tkd tkp tkr tkc), (a_rs, .inl (kA, 41, .inl rsF)), (a_lo, .inr (2, [.ref a_op, .ref a_oe])), (a_oe, .inl (kA, 42, .inl oeF))]) [0, 1, 2, 3, 4] (by decide) rfl
  refine fr_l (wr := []) (WN := fun (u3 : Unit) => [(a_pl, .inr (3, [.int days, .ref a_tk, .ref a_rs])), (a_tk, tkE tkk tkd tkp tkr tkc), (a_rs, .inl (kA, 41, .inl rsF)), (a_lo, .inr (2, [.ref a_op, .ref a_oe])), (a_oe, .inl (kA, 42, .inl oeF))]) (va_runV (As := [.ref a_pl, .int (1 : Int32)]) (rest := []) ⟨hx, hb, hml, hown, hts⟩ (c_X2_millionthsOf l dC dI kA a_pl a_tk a_rs a_lo a_oe a_op s.heap.size days tkk tkd tkp tkr tkc rsF oeF (1 : Int32) _ h) (cwV 2 hts gX2_lowerBound_X2_millionthsOf rfl rfl rfl (by decide +kernel) ⟨Nat.le_of_ble_eq_true rfl, Nat.le_of_ble_eq_true rfl⟩) (prW.preV (ci := 2) (q0 := 3) hPc hDc hK hN rfl rfl) rfl rfl hl.1 rfl (lv_room (Nat.le_of_ble_eq_true rfl)) dX2_lowerBound_3 ⟨Nat.le_of_ble_eq_true rfl, Nat.le_of_ble_eq_true rfl⟩) hP hD hS hA [0, 1, 2, 3, 4] [] rfl rfl (by decide) (by decide) [0, 1, 2, 3, 4] (by decide) (fun _ => rfl) (fun r3 u3 H locs h hP hD hS => ?_)
  have hP : va_P (dC, dI) vwCl [(a_pl, .inr (3, [.int days, .ref a_tk, .ref a_rs])), (a_tk, tkE tkk tkd tkp tkr tkc), (a_rs, .inl (kA, 41, .inl rsF)), (a_lo, .inr (2, [.ref a_op, .ref a_oe])), (a_oe, .inl (kA, 42, .inl oeF))] H := hP
  have hD : va_D A [(a_pl, .inr (3, [.int days, .ref a_tk, .ref a_rs])), (a_tk, tkE tkk tkd tkp tkr tkc), (a_rs, .inl (kA, 41, .inl rsF)), (a_lo, .inr (2, [.ref a_op, .ref a_oe])), (a_oe, .inl (kA, 42, .inl oeF))] := hD
  refine lv_lstore_n (lv' := [(3, .long r3), (0, .ref a_lo), (1, .ref a_pl), (2, .int p2)]) hx hb dX2_lowerBound_6 rfl hl (by decide) rfl (fun ls hl => ?_)
  refine lv_iconst (v := (2 : Int32)) hx hb dX2_lowerBound_7 (by decide +kernel) ?_
  refine lv_istore (lv' := [(5, .int (2 : Int32)), (3, .long r3), (0, .ref a_lo), (1, .ref a_pl), (2, .int p2)]) hx hb dX2_lowerBound_8 hl (by decide) rfl (fun ls hl => ?_)
  obtain ⟨J10, ⟨n10, h⟩, hz10, hs10⟩ := h
  have hL10 : ∀ (n10 : Nat) (v3_10 : Int64) (v5_10 : Int32), J10 n10 v3_10 v5_10 → ∀ (H : Heap) (locs : List Loc) (ls : Array Slot), va_P (dC, dI) vwCl [(a_pl, .inr (3, [.int days, .ref a_tk, .ref a_rs])), (a_tk, tkE tkk tkd tkp tkr tkc), (a_rs, .inl (kA, 41, .inl rsF)), (a_lo, .inr (2, [.ref a_op, .ref a_oe])), (a_oe, .inl (kA, 42, .inl oeF))] H → va_D A [(a_pl, .inr (3, [.int days, .ref a_tk, .ref a_rs])), (a_tk, tkE tkk tkd tkp tkr tkc), (a_rs, .inl (kA, 41, .inl rsF)), (a_lo, .inr (2, [.ref a_op, .ref a_oe])), (a_oe, .inl (kA, 42, .inl oeF))] → va_S A s.heap H locs → lv_has ls 6 [(0, .ref a_lo), (1, .ref a_pl), (2, .int p2), (3, .long v3_10), (5, .int v5_10)] → W p l e (headSpec wsX2_lowerBound rmX2_lowerBound).room s m args below meth c H locs 0 0 Q (F0 m 10 ls []) := by
    intro n10
    induction n10 with
    | zero => intro v3_10 v5_10 h; exact absurd h (hz10 v3_10 v5_10)
    | succ n10 ih10 =>
      intro v3_10 v5_10 h H locs ls hP hD hS hl
      replace h := hs10 n10 v3_10 v5_10 h
      refine lv_iload hx hb dX2_lowerBound_10 (lv_at hl 4 rfl) ?_
      refine lv_aload_n hx hb dX2_lowerBound_12 rfl (lv_at hl 1 rfl) ?_
      refine va_getN (D := (dC, dI)) (ci := 3) (v := .int days) (C := RX3) (T := TX3) (N := 3) hx hb hts (fun _ h => List.mem_cons_of_mem _ (List.mem_append_left _ (List.mem_append_left _ (List.mem_append_left _ (List.mem_append_left _ (List.mem_append_right _ h)))))) hown hK hP 0 rfl rfl 0 (by decide) (hN.f 2 rfl) (fun _ h9 => h9) rfl dX2_lowerBound_13 ?_
      refine lv_iconst (v := (1 : Int32)) hx hb dX2_lowerBound_16 (by decide +kernel) ?_
      refine lv_iadd hx hb dX2_lowerBound_17 ?_
      refine lv_icmp_gt (tgt := 39) hx hb dX2_lowerBound_18 (by decide) (fun c18 => ?_) (fun c18 => ?_)
      · replace h := h.1 c18
        refine lv_lload_n hx hb dX2_lowerBound_39 rfl (lv_at hl 3 rfl) ?_
        refine lv_iload_n hx hb dX2_lowerBound_40 rfl (lv_at hl 2 rfl) ?_
        refine lv_i2l hx hb dX2_lowerBound_41 rfl ?_
        refine lv_ldc2 (v := (1000 : Int64)) hx hb hown (hts (.constantLong RX2 32 (1000)) (List.mem_cons_of_mem _ (List.mem_append_left _ (List.mem_append_left _ (List.mem_append_left _ (List.mem_append_left _ (List.mem_append_left _ (List.mem_of_getElem? (i := 4) rfl)))))))) dX2_lowerBound_42 ?_
        refine lv_lmul hx hb dX2_lowerBound_45 ?_
        have hPc := hP.sub (ws' := []) [] rfl
        have hDc := hD.sub (ws' := []) [] (by decide) rfl
        refine fr_l (wr := [(a_pl, .inr (3, [.int days, .ref a_tk, .ref a_rs])), (a_tk, tkE tkk tkd tkp tkr tkc), (a_rs, .inl (kA, 41, .inl rsF)), (a_lo, .inr (2, [.ref a_op, .ref a_oe])), (a_oe, .inl (kA, 42, .inl oeF))]) (WN := fun (u46 : Unit) => [(a_pl, .inr (3, [.int days, .ref a_tk, .ref a_rs])), (a_tk, tkE tkk tkd tkp tkr tkc), (a_rs, .inl (kA, 41, .inl rsF)), (a_lo, .inr (2, [.ref a_op, .ref a_oe])), (a_oe, .inl (kA, 42, .inl oeF))]) (va_runSN (As := [.long v3_10, .long (p2.toInt64 * (1000 : Int64))]) (rest := []) ⟨hx, hb, hml, hown, hts⟩ (c_X6_roundedDown l dC dI kA H.size v3_10 (p2.toInt64 * (1000 : Int64)) _ h) ⟨va_cnB 2 hts gX2_lowerBound_X6_roundedDown_n53 rfl rfl rfl (hN.m 3 rfl) (hts (.initialized RX6) (List.mem_cons_of_mem _ (List.mem_append_left _ (List.mem_append_left _ (List.mem_append_left _ (List.mem_append_left _ (List.mem_append_left _ (List.mem_of_getElem? (i := 27) rfl)))))))) (by decide +kernel) ⟨Nat.le_of_ble_eq_true rfl, Nat.le_of_ble_eq_true rfl⟩, (hts (.static yX6_roundedDown) (List.mem_cons_of_mem _ (List.mem_append_left _ (List.mem_append_left _ (List.mem_append_left _ (List.mem_append_left _ (List.mem_append_left _ (List.mem_of_getElem? (i := 26) rfl)))))))), trivial⟩ (prW.preS hPc hDc hK hN) rfl rfl hl.1 rfl (lv_room (Nat.le_of_ble_eq_true rfl)) dX2_lowerBound_46 ⟨Nat.le_of_ble_eq_true rfl, Nat.le_of_ble_eq_true rfl⟩) hP hD hS hA [] [0, 1, 2, 3, 4] rfl rfl (by decide) (by decide) [0, 1, 2, 3, 4] (by decide) (fun _ => rfl) (fun r46 u46 H locs h hP hD hS => ?_)
        have hP : va_P (dC, dI) vwCl [(a_pl, .inr (3, [.int days, .ref a_tk, .ref a_rs])), (a_tk, tkE tkk tkd tkp tkr tkc), (a_rs, .inl (kA, 41, .inl rsF)), (a_lo, .inr (2, [.ref a_op, .ref a_oe])), (a_oe, .inl (kA, 42, .inl oeF))] H := hP
        have hD : va_D A [(a_pl, .inr (3, [.int days, .ref a_tk, .ref a_rs])), (a_tk, tkE tkk tkd tkp tkr tkc), (a_rs, .inl (kA, 41, .inl rsF)), (a_lo, .inr (2, [.ref a_op, .ref a_oe])), (a_oe, .inl (kA, 42, .inl oeF))] := hD
        rw [hQ]
        exact rt_l () hx hb hr hlocks h hP hD hS dX2_lowerBound_49
      · replace h := h.2 c18
        refine lv_lload_n hx hb dX2_lowerBound_21 rfl (lv_at hl 3 rfl) ?_
        refine lv_aload_n hx hb dX2_lowerBound_22 rfl (lv_at hl 0 rfl) ?_
        refine lv_aload_n hx hb dX2_lowerBound_23 rfl (lv_at hl 1 rfl) ?_
        refine lv_iload hx hb dX2_lowerBound_24 (lv_at hl 4 rfl) ?_
        have hPc := hP.sub (ws' := [(a_pl, .inr (3, [.int days, .ref a_tk, .ref a_rs])), (a_tk, tkE tkk tkd tkp tkr tkc), (a_rs, .inl (kA, 41, .inl rsF)), (a_lo, .inr (2, [.ref a_op, .ref a_oe])), (a_oe, .inl (kA, 42, .inl oeF))]) [0, 1, 2, 3, 4] rfl
        have hDc := hD.sub (ws' := [(a_pl, .inr (3, [.int days, .ref a_tk, .ref a_rs])), (a_tk, tkE tkk tkd tkp tkr tkc), (a_rs, .inl (kA, 41, .inl rsF)), (a_lo, .inr (2, [.ref a_op, .ref a_oe])), (a_oe, .inl (kA, 42, .inl oeF))]) [0, 1, 2, 3, 4] (by decide) rfl
        refine fr_l (wr := []) (WN := fun (u26 : Unit) => [(a_pl, .inr (3, [.int days, .ref a_tk, .ref a_rs])), (a_tk, tkE tkk tkd tkp tkr tkc), (a_rs, .inl (kA, 41, .inl rsF)), (a_lo, .inr (2, [.ref a_op, .ref a_oe])), (a_oe, .inl (kA, 42, .inl oeF))]) (va_runV (As := [.ref a_pl, .int v5_10]) (rest := [.long v3_10]) ⟨hx, hb, hml, hown, hts⟩ (c_X2_millionthsOf l dC dI kA a_pl a_tk a_rs a_lo a_oe a_op H.size days tkk tkd tkp tkr tkc rsF oeF v5_10 _ h) (cwV 2 hts gX2_lowerBound_X2_millionthsOf rfl rfl rfl (by decide +kernel) ⟨Nat.le_of_ble_eq_true rfl, Nat.le_of_ble_eq_true rfl⟩) (prW.preV (ci := 2) (q0 := 3) hPc hDc hK hN rfl rfl) rfl rfl hl.1 rfl (lv_room (Nat.le_of_ble_eq_true rfl)) dX2_lowerBound_26 ⟨Nat.le_of_ble_eq_true rfl, Nat.le_of_ble_eq_true rfl⟩) hP hD hS hA [0, 1, 2, 3, 4] [] rfl rfl (by decide) (by decide) [0, 1, 2, 3, 4] (by decide) (fun _ => rfl) (fun r26 u26 H locs h hP hD hS => ?_)
        have hP : va_P (dC, dI) vwCl [(a_pl, .inr (3, [.int days, .ref a_tk, .ref a_rs])), (a_tk, tkE tkk tkd tkp tkr tkc), (a_rs, .inl (kA, 41, .inl rsF)), (a_lo, .inr (2, [.ref a_op, .ref a_oe])), (a_oe, .inl (kA, 42, .inl oeF))] H := hP
        have hD : va_D A [(a_pl, .inr (3, [.int days, .ref a_tk, .ref a_rs])), (a_tk, tkE tkk tkd tkp tkr tkc), (a_rs, .inl (kA, 41, .inl rsF)), (a_lo, .inr (2, [.ref a_op, .ref a_oe])), (a_oe, .inl (kA, 42, .inl oeF))] := hD
        refine va_mmin_long hx hb (by rw [hml]; exact hl.1.symm) hown (hts (.methodLink RX2 50 Lib.MathLoose.min_long.x) (List.mem_cons_of_mem _ (List.mem_append_left _ (List.mem_append_left _ (List.mem_append_left _ (List.mem_append_left _ (List.mem_append_left _ (List.mem_of_getElem? (i := 0) rfl)))))))) (hts (.static Lib.MathLoose.min_long.x) (List.mem_cons_of_mem _ (List.mem_append_left _ (List.mem_append_left _ (List.mem_append_left _ (List.mem_append_left _ (List.mem_append_left _ (List.mem_of_getElem? (i := 1) rfl)))))))) (hts (.initialized "java/lang/Math") (List.mem_cons_of_mem _ (List.mem_append_left _ (List.mem_append_left _ (List.mem_append_left _ (List.mem_append_left _ (List.mem_append_left _ (List.mem_of_getElem? (i := 2) rfl)))))))) (hts (.code Lib.MathLoose.min_long.x Lib.MathLoose.min_long.code 4 (some .long)) (List.mem_cons_of_mem _ (List.mem_append_left _ (List.mem_append_left _ (List.mem_append_left _ (List.mem_append_left _ (List.mem_append_left _ (List.mem_of_getElem? (i := 3) rfl)))))))) (Nat.le_of_ble_eq_true rfl) (Nat.le_of_ble_eq_true rfl) (Nat.le_of_ble_eq_true rfl) (Nat.le_of_ble_eq_true rfl) dX2_lowerBound_29 ?_
        refine lv_lstore_n (lv' := [(3, .long (if r26 < v3_10 then r26 else v3_10)), (0, .ref a_lo), (1, .ref a_pl), (2, .int p2), (5, .int v5_10)]) hx hb dX2_lowerBound_32 rfl hl (by decide) rfl (fun ls hl => ?_)
        refine lv_iinc (v := (v5_10 + (1 : Int32))) (lv' := [(5, .int (v5_10 + (1 : Int32))), (3, .long (if r26 < v3_10 then r26 else v3_10)), (0, .ref a_lo), (1, .ref a_pl), (2, .int p2)]) hx hb dX2_lowerBound_33 hl (k := 4) rfl (by rfl) (by decide) rfl (fun ls hl => ?_)
        refine lv_goto (tgt := 10) hx hb dX2_lowerBound_36 (by decide) ?_
        exact ih10 (if r26 < v3_10 then r26 else v3_10) (v5_10 + (1 : Int32)) h _ _ _ hP hD hS (lv_sub hl [2, 3, 4, 1, 0] rfl)
  exact hL10 n10 r3 (2 : Int32) h _ _ _ hP hD hS (lv_sub hl [2, 3, 4, 1, 0] rfl)

/-- RentOrBuy$Lots.replace -/
def rmX2_replace : Room := { frames := 0, cells := 0, slots := 0, locals := 0 }
set_option maxHeartbeats 4000000 in
set_option maxRecDepth 100000 in
theorem c_X2_replace (l : Launch) (dC : Nat → ClassId) (dI : Nat → Nat → Nat) (kA : ClassId) (a_ar : Nat) (sz : Nat) (arF : Nat → Int32) (p2 : Int32) (p3 : Int32) (K : Int32 → (Nat → Int32) → Prop) (hg : g_X2_replace arF p2 p3 K) : Met l yX2_replace wsX2_replace rmX2_replace (va_Pc [.ref a_ar, .int p2, .int p3] (prW (dC, dI) kA sz [(a_ar, .inl (kA, 42, .inl arF))])) (va_Qi (fun (r : Int32) (u : (Nat → Int32)) => K r u) (poW (dC, dI) (va_A [(a_ar, .inl (kA, 42, .inl arF))] sz) (fun (u : (Nat → Int32)) => [(a_ar, .inl (kA, 42, .inl u))])) (va_A [(a_ar, .inl (kA, 42, .inl arF))] sz)) 0 0 (va_A [(a_ar, .inl (kA, 42, .inl arF))] sz) := by
  refine Met.ofW (cc := cX2_replace) (maxL := 4) (ret := (some .int)) (by decide) rfl ?_
  intro p e s m args below meth c s₁ B hml hv
  obtain ⟨hargs, hsz, hP, hK, hD0, hN⟩ := hv
  have hx := B.exec
  have hb := B.bytes
  have hr := B.returns
  have hts := atoms_spec (ws := wsX2_replace) B.pre
  have hown : s.vm.findClass RX2 = some m.cls := findClass_of_methodNamed B.named
  have hlocks := B.notSynchronized
  subst hsz
  have hD := hD0.self (sz := s.heap.size)
  generalize hAe : va_A [(a_ar, .inl (kA, 42, .inl arF))] s.heap.size = A at hD ⊢
  have hA : ∀ q : Nat, s.heap.size ≤ q → A q := fun q h => by rw [← hAe]; exact Or.inr h
  have hS : va_S A s.heap s.heap [] := va_S.rf
  obtain ⟨Q, hQ⟩ : ∃ Q : State → Prop, Q = MQ below (va_Qi (fun (r : Int32) (u : (Nat → Int32)) => K r u) (poW (dC, dI) A (fun (u : (Nat → Int32)) => [(a_ar, .inl (kA, 42, .inl u))])) A) args s 0 0 A := ⟨_, rfl⟩
  rw [← hQ]
  have hP : va_P (dC, dI) vwCl [(a_ar, .inl (kA, 42, .inl arF))] s.heap := hP
  refine en_ok hargs (Nat.le_of_ble_eq_true rfl) (fun ls hl => ?_)
  have hl : lv_has ls 4 [(0, .ref a_ar), (1, .int p2), (2, .int p3)] := hl
  have h := hg
  unfold g_X2_replace at h
  refine lv_aload_n hx hb dX2_replace_0 rfl (lv_at hl 0 rfl) ?_
  refine lv_iload_n hx hb dX2_replace_1 rfl (lv_at hl 1 rfl) ?_
  obtain ⟨hi2, h⟩ := h
  refine va_iald hx hb hK hP 0 0 rfl rfl hi2 dX2_replace_2 ?_
  refine lv_istore_n (lv' := [(3, .int (arF p2.toNatClampNeg)), (0, .ref a_ar), (1, .int p2), (2, .int p3)]) hx hb dX2_replace_3 rfl hl (by decide) rfl (fun ls hl => ?_)
  refine lv_aload_n hx hb dX2_replace_4 rfl (lv_at hl 1 rfl) ?_
  refine lv_iload_n hx hb dX2_replace_5 rfl (lv_at hl 2 rfl) ?_
  refine lv_iload_n hx hb dX2_replace_6 rfl (lv_at hl 3 rfl) ?_
  obtain ⟨hi7, h⟩ := h
  refine va_iast hx hb hK hP hD hS 0 0 rfl rfl hi7 dX2_replace_7 (fun H locs hP hD hS => ?_)
  have hP : va_P (dC, dI) vwCl [(a_ar, .inl (kA, 42, .inl (upd arF p2.toNatClampNeg p3)))] H := hP
  have hD : va_D A [(a_ar, .inl (kA, 42, .inl (upd arF p2.toNatClampNeg p3)))] := hD
  refine lv_iload_n hx hb dX2_replace_8 rfl (lv_at hl 0 rfl) ?_
  rw [hQ]
  exact rt_i ((upd arF p2.toNatClampNeg p3)) hx hb hr hlocks h hP hD hS dX2_replace_9

/-- RentOrBuy$Lots.total -/
def rmX2_total : Room := { frames := 0, cells := 0, slots := 0, locals := 0 }
set_option maxHeartbeats 4000000 in
set_option maxRecDepth 100000 in
theorem c_X2_total (l : Launch) (dC : Nat → ClassId) (dI : Nat → Nat → Nat) (kA : ClassId) (a_ar : Nat) (sz : Nat) (arF : Nat → Int32) (K : Int32 → Prop) (hg : g_X2_total arF K) : Met l yX2_total wsX2_total rmX2_total (va_Pc [.ref a_ar] (prW (dC, dI) kA sz [(a_ar, .inl (kA, 42, .inl arF))])) (va_Qi (fun (r : Int32) (u : Unit) => K r) (poW (dC, dI) (va_A [(a_ar, .inl (kA, 42, .inl arF))] sz) (fun (u : Unit) => [(a_ar, .inl (kA, 42, .inl arF))])) (va_A [(a_ar, .inl (kA, 42, .inl arF))] sz)) 0 0 (va_A [(a_ar, .inl (kA, 42, .inl arF))] sz) := by
  refine Met.ofW (cc := cX2_total) (maxL := 6) (ret := (some .int)) (by decide) rfl ?_
  intro p e s m args below meth c s₁ B hml hv
  obtain ⟨hargs, hsz, hP, hK, hD0, hN⟩ := hv
  have hx := B.exec
  have hb := B.bytes
  have hr := B.returns
  have hts := atoms_spec (ws := wsX2_total) B.pre
  have hown : s.vm.findClass RX2 = some m.cls := findClass_of_methodNamed B.named
  have hlocks := B.notSynchronized
  subst hsz
  have hD := hD0.self (sz := s.heap.size)
  generalize hAe : va_A [(a_ar, .inl (kA, 42, .inl arF))] s.heap.size = A at hD ⊢
  have hA : ∀ q : Nat, s.heap.size ≤ q → A q := fun q h => by rw [← hAe]; exact Or.inr h
  have hS : va_S A s.heap s.heap [] := va_S.rf
  obtain ⟨Q, hQ⟩ : ∃ Q : State → Prop, Q = MQ below (va_Qi (fun (r : Int32) (u : Unit) => K r) (poW (dC, dI) A (fun (u : Unit) => [(a_ar, .inl (kA, 42, .inl arF))])) A) args s 0 0 A := ⟨_, rfl⟩
  rw [← hQ]
  have hP : va_P (dC, dI) vwCl [(a_ar, .inl (kA, 42, .inl arF))] s.heap := hP
  refine en_ok hargs (Nat.le_of_ble_eq_true rfl) (fun ls hl => ?_)
  have hl : lv_has ls 6 [(0, .ref a_ar)] := hl
  have h := hg
  unfold g_X2_total at h
  refine lv_iconst (v := (0 : Int32)) hx hb dX2_total_0 (by decide +kernel) ?_
  refine lv_istore_n (lv' := [(1, .int (0 : Int32)), (0, .ref a_ar)]) hx hb dX2_total_1 rfl hl (by decide) rfl (fun ls hl => ?_)
  refine lv_aload_n hx hb dX2_total_2 rfl (lv_at hl 1 rfl) ?_
  refine lv_astore_n (lv' := [(2, .ref a_ar), (1, .int (0 : Int32)), (0, .ref a_ar)]) hx hb dX2_total_3 rfl hl (by decide) rfl (fun ls hl => ?_)
  refine lv_aload_n hx hb dX2_total_4 rfl (lv_at hl 0 rfl) ?_
  refine va_alen (v := (42 : Int32)) hx hb hK hP 0 0 rfl rfl rfl dX2_total_5 ?_
  refine lv_istore_n (lv' := [(3, .int (42 : Int32)), (2, .ref a_ar), (1, .int (0 : Int32)), (0, .ref a_ar)]) hx hb dX2_total_6 rfl hl (by decide) rfl (fun ls hl => ?_)
  refine lv_iconst (v := (0 : Int32)) hx hb dX2_total_7 (by decide +kernel) ?_
  refine lv_istore (lv' := [(4, .int (0 : Int32)), (3, .int (42 : Int32)), (2, .ref a_ar), (1, .int (0 : Int32)), (0, .ref a_ar)]) hx hb dX2_total_8 hl (by decide) rfl (fun ls hl => ?_)
  obtain ⟨J10, ⟨n10, h⟩, hz10, hs10⟩ := h
  have hL10 : ∀ (n10 : Nat) (v1_10 : Int32) (v4_10 : Int32), J10 n10 v1_10 v4_10 → ∀ (H : Heap) (locs : List Loc) (ls : Array Slot), va_P (dC, dI) vwCl [(a_ar, .inl (kA, 42, .inl arF))] H → va_D A [(a_ar, .inl (kA, 42, .inl arF))] → va_S A s.heap H locs → lv_has ls 6 [(1, .int v1_10), (2, .ref a_ar), (3, .int (42 : Int32)), (4, .int v4_10)] → W p l e (headSpec wsX2_total rmX2_total).room s m args below meth c H locs 0 0 Q (F0 m 10 ls []) := by
    intro n10
    induction n10 with
    | zero => intro v1_10 v4_10 h; exact absurd h (hz10 v1_10 v4_10)
    | succ n10 ih10 =>
      intro v1_10 v4_10 h H locs ls hP hD hS hl
      replace h := hs10 n10 v1_10 v4_10 h
      refine lv_iload hx hb dX2_total_10 (lv_at hl 3 rfl) ?_
      refine lv_iload_n hx hb dX2_total_12 rfl (lv_at hl 2 rfl) ?_
      refine lv_icmp_ge (tgt := 33) hx hb dX2_total_13 (by decide) (fun c13 => ?_) (fun c13 => ?_)
      · replace h := h.1 c13
        refine lv_iload_n hx hb dX2_total_33 rfl (lv_at hl 0 rfl) ?_
        rw [hQ]
        exact rt_i () hx hb hr hlocks h hP hD hS dX2_total_34
      · replace h := h.2 c13
        refine lv_aload_n hx hb dX2_total_16 rfl (lv_at hl 1 rfl) ?_
        refine lv_iload hx hb dX2_total_17 (lv_at hl 3 rfl) ?_
        obtain ⟨hi19, h⟩ := h
        refine va_iald hx hb hK hP 0 0 rfl rfl hi19 dX2_total_19 ?_
        refine lv_istore (lv' := [(5, .int (arF v4_10.toNatClampNeg)), (1, .int v1_10), (2, .ref a_ar), (3, .int (42 : Int32)), (4, .int v4_10)]) hx hb dX2_total_20 hl (by decide) rfl (fun ls hl => ?_)
        refine lv_iload_n hx hb dX2_total_22 rfl (lv_at hl 1 rfl) ?_
        refine lv_iload hx hb dX2_total_23 (lv_at hl 0 rfl) ?_
        refine lv_iadd hx hb dX2_total_25 ?_
        refine lv_istore_n (lv' := [(1, .int (v1_10 + (arF v4_10.toNatClampNeg))), (5, .int (arF v4_10.toNatClampNeg)), (2, .ref a_ar), (3, .int (42 : Int32)), (4, .int v4_10)]) hx hb dX2_total_26 rfl hl (by decide) rfl (fun ls hl => ?_)
        refine lv_iinc (v := (v4_10 + (1 : Int32))) (lv' := [(4, .int (v4_10 + (1 : Int32))), (1, .int (v1_10 + (arF v4_10.toNatClampNeg))), (5, .int (arF v4_10.toNatClampNeg)), (2, .ref a_ar), (3, .int (42 : Int32))]) hx hb dX2_total_27 hl (k := 4) rfl (by rfl) (by decide) rfl (fun ls hl => ?_)
        refine lv_goto (tgt := 10) hx hb dX2_total_30 (by decide) ?_
        exact ih10 (v1_10 + (arF v4_10.toNatClampNeg)) (v4_10 + (1 : Int32)) h _ _ _ hP hD hS (lv_sub hl [1, 3, 4, 0] rfl)
  exact hL10 n10 (0 : Int32) (0 : Int32) h _ _ _ hP hD hS (lv_sub hl [3, 2, 1, 0] rfl)

/-- RentOrBuy.roundedUp -/
def rmX6_roundedUp : Room := { frames := 1, cells := 0, slots := 0, locals := 23 }
set_option maxHeartbeats 4000000 in
set_option maxRecDepth 100000 in
theorem c_X6_roundedUp (l : Launch) (dC : Nat → ClassId) (dI : Nat → Nat → Nat) (kA : ClassId) (sz : Nat) (p1 : Int64) (p2 : Int64) (K : Int64 → Prop) (hg : g_X6_roundedUp p1 p2 K) : Met l yX6_roundedUp wsX6_roundedUp rmX6_roundedUp (va_Pc [.long p1, .long p2] (prW (dC, dI) kA sz [])) (va_Ql (fun (r : Int64) (u : Unit) => K r) (poW (dC, dI) (va_A [] sz) (fun (u : Unit) => [])) (va_A [] sz)) 0 0 (va_A [] sz) := by
  refine Met.ofW (cc := cX6_roundedUp) (maxL := 4) (ret := (some .long)) (by decide) rfl ?_
  intro p e s m args below meth c s₁ B hml hv
  obtain ⟨hargs, hsz, hP, hK, hD0, hN⟩ := hv
  have hx := B.exec
  have hb := B.bytes
  have hr := B.returns
  have hts := atoms_spec (ws := wsX6_roundedUp) B.pre
  have hown : s.vm.findClass RX6 = some m.cls := findClass_of_methodNamed B.named
  have hlocks := B.notSynchronized
  subst hsz
  have hD := hD0.self (sz := s.heap.size)
  generalize hAe : va_A [] s.heap.size = A at hD ⊢
  have hA : ∀ q : Nat, s.heap.size ≤ q → A q := fun q h => by rw [← hAe]; exact Or.inr h
  have hS : va_S A s.heap s.heap [] := va_S.rf
  obtain ⟨Q, hQ⟩ : ∃ Q : State → Prop, Q = MQ below (va_Ql (fun (r : Int64) (u : Unit) => K r) (poW (dC, dI) A (fun (u : Unit) => [])) A) args s 0 0 A := ⟨_, rfl⟩
  rw [← hQ]
  have hP : va_P (dC, dI) vwCl [] s.heap := hP
  refine en_ok hargs (Nat.le_of_ble_eq_true rfl) (fun ls hl => ?_)
  have hl : lv_has ls 4 [(0, .long p1), (2, .long p2)] := hl
  have h := hg
  unfold g_X6_roundedUp at h
  refine lv_lload_n hx hb dX6_roundedUp_0 rfl (lv_at hl 0 rfl) ?_
  refine lv_lload_n hx hb dX6_roundedUp_1 rfl (lv_at hl 1 rfl) ?_
  refine lv_ladd hx hb dX6_roundedUp_2 ?_
  refine lv_lconst (v := (1 : Int64)) hx hb dX6_roundedUp_3 (by decide +kernel) ?_
  refine lv_lsub hx hb dX6_roundedUp_4 ?_
  refine lv_lload_n hx hb dX6_roundedUp_5 rfl (lv_at hl 1 rfl) ?_
  have hPc := hP.sub (ws' := []) [] rfl
  have hDc := hD.sub (ws' := []) [] (by decide) rfl
  refine fr_l (wr := []) (WN := fun (u6 : Unit) => []) (va_runS (As := [.long ((p1 + p2) - (1 : Int64)), .long p2]) (rest := []) ⟨hx, hb, hml, hown, hts⟩ (c_X6_roundedDown l dC dI kA s.heap.size ((p1 + p2) - (1 : Int64)) p2 _ h) (va_cwS 2 hts gX6_roundedUp_X6_roundedDown rfl rfl rfl (by decide +kernel) ⟨Nat.le_of_ble_eq_true rfl, Nat.le_of_ble_eq_true rfl⟩) (prW.preS hPc hDc hK hN) rfl rfl hl.1 rfl (lv_room (Nat.le_of_ble_eq_true rfl)) dX6_roundedUp_6 ⟨Nat.le_of_ble_eq_true rfl, Nat.le_of_ble_eq_true rfl⟩) hP hD hS hA [] [] rfl rfl (by decide) (by decide) [] (by decide) (fun _ => rfl) (fun r6 u6 H locs h hP hD hS => ?_)
  have hP : va_P (dC, dI) vwCl [] H := hP
  have hD : va_D A [] := hD
  rw [hQ]
  exact rt_l () hx hb hr hlocks h hP hD hS dX6_roundedUp_9

/-- RentOrBuy$Lots.upperBound -/
def rmX2_upperBound : Room := { frames := 2, cells := 0, slots := 0, locals := 47 }
set_option maxHeartbeats 4000000 in
set_option maxRecDepth 100000 in
theorem c_X2_upperBound (l : Launch) (dC : Nat → ClassId) (dI : Nat → Nat → Nat) (kA : ClassId) (a_pl a_tk a_rs a_lo a_op a_oe : Nat) (sz : Nat) (days : Int32) (tkk : Nat) (tkd : Int32) (tkp : Int32) (tkr : Int32) (tkc : Int32) (rsF : Nat → Int32) (opF : Nat → Int32) (p2 : Int32) (K : Int64 → Prop) (hg : g_X2_upperBound days tkk tkd tkp tkr tkc rsF opF p2 K) : Met l yX2_upperBound wsX2_upperBound rmX2_upperBound (va_Pc [.ref a_lo, .ref a_pl, .int p2] (prW (dC, dI) kA sz [(a_pl, .inr (3, [.int days, .ref a_tk, .ref a_rs])), (a_tk, tkE tkk tkd tkp tkr tkc), (a_rs, .inl (kA, 41, .inl rsF)), (a_lo, .inr (2, [.ref a_op, .ref a_oe])), (a_op, .inl (kA, 42, .inl opF))])) (va_Ql (fun (r : Int64) (u : Unit) => K r) (poW (dC, dI) (va_A [(a_pl, .inr (3, [.int days, .ref a_tk, .ref a_rs])), (a_tk, tkE tkk tkd tkp tkr tkc), (a_rs, .inl (kA, 41, .inl rsF)), (a_lo, .inr (2, [.ref a_op, .ref a_oe])), (a_op, .inl (kA, 42, .inl opF))] sz) (fun (u : Unit) => [(a_pl, .inr (3, [.int days, .ref a_tk, .ref a_rs])), (a_tk, tkE tkk tkd tkp tkr tkc), (a_rs, .inl (kA, 41, .inl rsF)), (a_lo, .inr (2, [.ref a_op, .ref a_oe])), (a_op, .inl (kA, 42, .inl opF))])) (va_A [(a_pl, .inr (3, [.int days, .ref a_tk, .ref a_rs])), (a_tk, tkE tkk tkd tkp tkr tkc), (a_rs, .inl (kA, 41, .inl rsF)), (a_lo, .inr (2, [.ref a_op, .ref a_oe])), (a_op, .inl (kA, 42, .inl opF))] sz)) 0 0 (va_A [(a_pl, .inr (3, [.int days, .ref a_tk, .ref a_rs])), (a_tk, tkE tkk tkd tkp tkr tkc), (a_rs, .inl (kA, 41, .inl rsF)), (a_lo, .inr (2, [.ref a_op, .ref a_oe])), (a_op, .inl (kA, 42, .inl opF))] sz) := by
  refine Met.ofW (cc := cX2_upperBound) (maxL := 8) (ret := (some .long)) (by decide) rfl ?_
  intro p e s m args below meth c s₁ B hml hv
  obtain ⟨hargs, hsz, hP, hK, hD0, hN⟩ := hv
  have hx := B.exec
  have hb := B.bytes
  have hr := B.returns
  have hts := atoms_spec (ws := wsX2_upperBound) B.pre
  have hown : s.vm.findClass RX2 = some m.cls := findClass_of_methodNamed B.named
  have hlocks := B.notSynchronized
  subst hsz
  have hD := hD0.self (sz := s.heap.size)
  generalize hAe : va_A [(a_pl, .inr (3, [.int days, .ref a_tk, .ref a_rs])), (a_tk, tkE tkk tkd tkp tkr tkc), (a_rs, .inl (kA, 41, .inl rsF)), (a_lo, .inr (2, [.ref a_op, .ref a_oe])), (a_op, .inl (kA, 42, .inl opF))] s.heap.size = A at hD ⊢
  have hA : ∀ q : Nat, s.heap.size ≤ q → A q := fun q h => by rw [← hAe]; exact Or.inr h
  have hS : va_S A s.heap s.heap [] := va_S.rf
  obtain ⟨Q, hQ⟩ : ∃ Q : State → Prop, Q = MQ below (va_Ql (fun (r : Int64) (u : Unit) => K r) (poW (dC, dI) A (fun (u : Unit) => [(a_pl, .inr (3, [.int days, .ref a_tk, .ref a_rs])), (a_tk, tkE tkk tkd tkp tkr tkc), (a_rs, .inl (kA, 41, .inl rsF)), (a_lo, .inr (2, [.ref a_op, .ref a_oe])), (a_op, .inl (kA, 42, .inl opF))])) A) args s 0 0 A := ⟨_, rfl⟩
  rw [← hQ]
  have hP : va_P (dC, dI) vwCl [(a_pl, .inr (3, [.int days, .ref a_tk, .ref a_rs])), (a_tk, tkE tkk tkd tkp tkr tkc), (a_rs, .inl (kA, 41, .inl rsF)), (a_lo, .inr (2, [.ref a_op, .ref a_oe])), (a_op, .inl (kA, 42, .inl opF))] s.heap := hP
  refine en_ok hargs (Nat.le_of_ble_eq_true rfl) (fun ls hl => ?_)
  have hl : lv_has ls 8 [(0, .ref a_lo), (1, .ref a_pl), (2, .int p2)] := hl
  have h := hg
  unfold g_X2_upperBound at h
  refine lv_lconst (v := (0 : Int64)) hx hb dX2_upperBound_0 (by decide +kernel) ?_
  refine lv_lstore_n (lv' := [(3, .long (0 : Int64)), (0, .ref a_lo), (1, .ref a_pl), (2, .int p2)]) hx hb dX2_upperBound_1 rfl hl (by decide) rfl (fun ls hl => ?_)
  refine lv_iconst (v := (1 : Int32)) hx hb dX2_upperBound_2 (by decide +kernel) ?_
  refine lv_istore (lv' := [(5, .int (1 : Int32)), (3, .long (0 : Int64)), (0, .ref a_lo), (1, .ref a_pl), (2, .int p2)]) hx hb dX2_upperBound_3 hl (by decide) rfl (fun ls hl => ?_)
  obtain ⟨J5, ⟨n5, h⟩, hz5, hs5⟩ := h
  have hL5 : ∀ (n5 : Nat) (v3_5 : Int64) (v5_5 : Int32), J5 n5 v3_5 v5_5 → ∀ (H : Heap) (locs : List Loc) (ls : Array Slot), va_P (dC, dI) vwCl [(a_pl, .inr (3, [.int days, .ref a_tk, .ref a_rs])), (a_tk, tkE tkk tkd tkp tkr tkc), (a_rs, .inl (kA, 41, .inl rsF)), (a_lo, .inr (2, [.ref a_op, .ref a_oe])), (a_op, .inl (kA, 42, .inl opF))] H → va_D A [(a_pl, .inr (3, [.int days, .ref a_tk, .ref a_rs])), (a_tk, tkE tkk tkd tkp tkr tkc), (a_rs, .inl (kA, 41, .inl rsF)), (a_lo, .inr (2, [.ref a_op, .ref a_oe])), (a_op, .inl (kA, 42, .inl opF))] → va_S A s.heap H locs → lv_has ls 8 [(0, .ref a_lo), (1, .ref a_pl), (2, .int p2), (3, .long v3_5), (5, .int v5_5)] → W p l e (headSpec wsX2_upperBound rmX2_upperBound).room s m args below meth c H locs 0 0 Q (F0 m 5 ls []) := by
    intro n5
    induction n5 with
    | zero => intro v3_5 v5_5 h; exact absurd h (hz5 v3_5 v5_5)
    | succ n5 ih5 =>
      intro v3_5 v5_5 h H locs ls hP hD hS hl
      replace h := hs5 n5 v3_5 v5_5 h
      refine lv_iload hx hb dX2_upperBound_5 (lv_at hl 4 rfl) ?_
      refine lv_aload_n hx hb dX2_upperBound_7 rfl (lv_at hl 1 rfl) ?_
      refine va_getN (D := (dC, dI)) (ci := 3) (v := .int days) (C := RX3) (T := TX3) (N := 3) hx hb hts (fun _ h => List.mem_cons_of_mem _ (List.mem_append_left _ (List.mem_append_left _ (List.mem_append_left _ (List.mem_append_left _ (List.mem_append_right _ h)))))) hown hK hP 0 rfl rfl 0 (by decide) (hN.f 2 rfl) (fun _ h9 => h9) rfl dX2_upperBound_8 ?_
      refine lv_icmp_gt (tgt := 53) hx hb dX2_upperBound_11 (by decide) (fun c11 => ?_) (fun c11 => ?_)
      · replace h := h.1 c11
        refine lv_lload_n hx hb dX2_upperBound_53 rfl (lv_at hl 3 rfl) ?_
        rw [hQ]
        exact rt_l () hx hb hr hlocks h hP hD hS dX2_upperBound_54
      · replace h := h.2 c11
        refine lv_aload_n hx hb dX2_upperBound_14 rfl (lv_at hl 0 rfl) ?_
        refine lv_aload_n hx hb dX2_upperBound_15 rfl (lv_at hl 1 rfl) ?_
        refine lv_iload hx hb dX2_upperBound_16 (lv_at hl 4 rfl) ?_
        have hPc := hP.sub (ws' := [(a_pl, .inr (3, [.int days, .ref a_tk, .ref a_rs])), (a_tk, tkE tkk tkd tkp tkr tkc), (a_rs, .inl (kA, 41, .inl rsF)), (a_lo, .inr (2, [.ref a_op, .ref a_oe])), (a_op, .inl (kA, 42, .inl opF))]) [0, 1, 2, 3, 4] rfl
        have hDc := hD.sub (ws' := [(a_pl, .inr (3, [.int days, .ref a_tk, .ref a_rs])), (a_tk, tkE tkk tkd tkp tkr tkc), (a_rs, .inl (kA, 41, .inl rsF)), (a_lo, .inr (2, [.ref a_op, .ref a_oe])), (a_op, .inl (kA, 42, .inl opF))]) [0, 1, 2, 3, 4] (by decide) rfl
        refine fr_l (wr := []) (WN := fun (u18 : Unit) => [(a_pl, .inr (3, [.int days, .ref a_tk, .ref a_rs])), (a_tk, tkE tkk tkd tkp tkr tkc), (a_rs, .inl (kA, 41, .inl rsF)), (a_lo, .inr (2, [.ref a_op, .ref a_oe])), (a_op, .inl (kA, 42, .inl opF))]) (va_runV (As := [.ref a_pl, .int v5_5]) (rest := []) ⟨hx, hb, hml, hown, hts⟩ (c_X2_costsBy l dC dI kA a_pl a_tk a_rs a_lo a_op a_oe H.size days tkk tkd tkp tkr tkc rsF opF v5_5 _ h) (cwV 2 hts gX2_upperBound_X2_costsBy rfl rfl rfl (by decide +kernel) ⟨Nat.le_of_ble_eq_true rfl, Nat.le_of_ble_eq_true rfl⟩) (prW.preV (ci := 2) (q0 := 3) hPc hDc hK hN rfl rfl) rfl rfl hl.1 rfl (lv_room (Nat.le_of_ble_eq_true rfl)) dX2_upperBound_18 ⟨Nat.le_of_ble_eq_true rfl, Nat.le_of_ble_eq_true rfl⟩) hP hD hS hA [0, 1, 2, 3, 4] [] rfl rfl (by decide) (by decide) [0, 1, 2, 3, 4] (by decide) (fun _ => rfl) (fun r18 u18 H locs h hP hD hS => ?_)
        have hP : va_P (dC, dI) vwCl [(a_pl, .inr (3, [.int days, .ref a_tk, .ref a_rs])), (a_tk, tkE tkk tkd tkp tkr tkc), (a_rs, .inl (kA, 41, .inl rsF)), (a_lo, .inr (2, [.ref a_op, .ref a_oe])), (a_op, .inl (kA, 42, .inl opF))] H := hP
        have hD : va_D A [(a_pl, .inr (3, [.int days, .ref a_tk, .ref a_rs])), (a_tk, tkE tkk tkd tkp tkr tkc), (a_rs, .inl (kA, 41, .inl rsF)), (a_lo, .inr (2, [.ref a_op, .ref a_oe])), (a_op, .inl (kA, 42, .inl opF))] := hD
        refine lv_ldc2 (v := (1000 : Int64)) hx hb hown (hts (.constantLong RX2 32 (1000)) (List.mem_cons_of_mem _ (List.mem_append_left _ (List.mem_append_left _ (List.mem_append_left _ (List.mem_append_left _ (List.mem_append_left _ (List.mem_of_getElem? (i := 0) rfl)))))))) dX2_upperBound_21 ?_
        refine lv_lmul hx hb dX2_upperBound_24 ?_
        refine lv_aload_n hx hb dX2_upperBound_25 rfl (lv_at hl 1 rfl) ?_
        refine lv_iload hx hb dX2_upperBound_26 (lv_at hl 4 rfl) ?_
        have hPc := hP.sub (ws' := [(a_pl, .inr (3, [.int days, .ref a_tk, .ref a_rs])), (a_tk, tkE tkk tkd tkp tkr tkc), (a_rs, .inl (kA, 41, .inl rsF))]) [0, 1, 2] rfl
        have hDc := hD.sub (ws' := [(a_pl, .inr (3, [.int days, .ref a_tk, .ref a_rs])), (a_tk, tkE tkk tkd tkp tkr tkc), (a_rs, .inl (kA, 41, .inl rsF))]) [0, 1, 2] (by decide) rfl
        refine fr_i (wr := [(a_lo, .inr (2, [.ref a_op, .ref a_oe])), (a_op, .inl (kA, 42, .inl opF))]) (WN := fun (u28 : Unit) => [(a_pl, .inr (3, [.int days, .ref a_tk, .ref a_rs])), (a_tk, tkE tkk tkd tkp tkr tkc), (a_rs, .inl (kA, 41, .inl rsF)), (a_lo, .inr (2, [.ref a_op, .ref a_oe])), (a_op, .inl (kA, 42, .inl opF))]) (va_runV (As := [.int v5_5]) (rest := [.long (r18 * (1000 : Int64))]) ⟨hx, hb, hml, hown, hts⟩ (c_X3_knownBy l dC dI kA a_pl a_tk a_rs H.size days tkk tkd tkp tkr tkc rsF v5_5 _ h) (cwV 1 hts gX2_upperBound_X3_knownBy rfl rfl rfl (by decide +kernel) ⟨Nat.le_of_ble_eq_true rfl, Nat.le_of_ble_eq_true rfl⟩) (prW.preV (ci := 3) (q0 := 0) hPc hDc hK hN rfl rfl) rfl rfl hl.1 rfl (lv_room (Nat.le_of_ble_eq_true rfl)) dX2_upperBound_28 ⟨Nat.le_of_ble_eq_true rfl, Nat.le_of_ble_eq_true rfl⟩) hP hD hS hA [0, 1, 2] [3, 4] rfl rfl (by decide) (by decide) [2, 3, 4, 0, 1] (by decide) (fun _ => rfl) (fun r28 u28 H locs h hP hD hS => ?_)
        have hP : va_P (dC, dI) vwCl [(a_pl, .inr (3, [.int days, .ref a_tk, .ref a_rs])), (a_tk, tkE tkk tkd tkp tkr tkc), (a_rs, .inl (kA, 41, .inl rsF)), (a_lo, .inr (2, [.ref a_op, .ref a_oe])), (a_op, .inl (kA, 42, .inl opF))] H := hP
        have hD : va_D A [(a_pl, .inr (3, [.int days, .ref a_tk, .ref a_rs])), (a_tk, tkE tkk tkd tkp tkr tkc), (a_rs, .inl (kA, 41, .inl rsF)), (a_lo, .inr (2, [.ref a_op, .ref a_oe])), (a_op, .inl (kA, 42, .inl opF))] := hD
        refine lv_i2l hx hb dX2_upperBound_31 rfl ?_
        refine lv_iload_n hx hb dX2_upperBound_32 rfl (lv_at hl 2 rfl) ?_
        refine lv_i2l hx hb dX2_upperBound_33 rfl ?_
        refine lv_lmul hx hb dX2_upperBound_34 ?_
        have hPc := hP.sub (ws' := []) [] rfl
        have hDc := hD.sub (ws' := []) [] (by decide) rfl
        refine fr_l (wr := [(a_pl, .inr (3, [.int days, .ref a_tk, .ref a_rs])), (a_tk, tkE tkk tkd tkp tkr tkc), (a_rs, .inl (kA, 41, .inl rsF)), (a_lo, .inr (2, [.ref a_op, .ref a_oe])), (a_op, .inl (kA, 42, .inl opF))]) (WN := fun (u35 : Unit) => [(a_pl, .inr (3, [.int days, .ref a_tk, .ref a_rs])), (a_tk, tkE tkk tkd tkp tkr tkc), (a_rs, .inl (kA, 41, .inl rsF)), (a_lo, .inr (2, [.ref a_op, .ref a_oe])), (a_op, .inl (kA, 42, .inl opF))]) (va_runSN (As := [.long (r18 * (1000 : Int64)), .long (r28.toInt64 * p2.toInt64)]) (rest := []) ⟨hx, hb, hml, hown, hts⟩ (c_X6_roundedUp l dC dI kA H.size (r18 * (1000 : Int64)) (r28.toInt64 * p2.toInt64) _ h) ⟨va_cnB 2 hts gX2_upperBound_X6_roundedUp_n38 rfl rfl rfl (hN.m 2 rfl) (hts (.initialized RX6) (List.mem_cons_of_mem _ (List.mem_append_left _ (List.mem_append_left _ (List.mem_append_left _ (List.mem_append_left _ (List.mem_append_left _ (List.mem_of_getElem? (i := 26) rfl)))))))) (by decide +kernel) ⟨Nat.le_of_ble_eq_true rfl, Nat.le_of_ble_eq_true rfl⟩, (hts (.static yX6_roundedUp) (List.mem_cons_of_mem _ (List.mem_append_left _ (List.mem_append_left _ (List.mem_append_left _ (List.mem_append_left _ (List.mem_append_left _ (List.mem_of_getElem? (i := 25) rfl)))))))), trivial⟩ (prW.preS hPc hDc hK hN) rfl rfl hl.1 rfl (lv_room (Nat.le_of_ble_eq_true rfl)) dX2_upperBound_35 ⟨Nat.le_of_ble_eq_true rfl, Nat.le_of_ble_eq_true rfl⟩) hP hD hS hA [] [0, 1, 2, 3, 4] rfl rfl (by decide) (by decide) [0, 1, 2, 3, 4] (by decide) (fun _ => rfl) (fun r35 u35 H locs h hP hD hS => ?_)
        have hP : va_P (dC, dI) vwCl [(a_pl, .inr (3, [.int days, .ref a_tk, .ref a_rs])), (a_tk, tkE tkk tkd tkp tkr tkc), (a_rs, .inl (kA, 41, .inl rsF)), (a_lo, .inr (2, [.ref a_op, .ref a_oe])), (a_op, .inl (kA, 42, .inl opF))] H := hP
        have hD : va_D A [(a_pl, .inr (3, [.int days, .ref a_tk, .ref a_rs])), (a_tk, tkE tkk tkd tkp tkr tkc), (a_rs, .inl (kA, 41, .inl rsF)), (a_lo, .inr (2, [.ref a_op, .ref a_oe])), (a_op, .inl (kA, 42, .inl opF))] := hD
        refine lv_lstore (lv' := [(6, .long r35), (0, .ref a_lo), (1, .ref a_pl), (2, .int p2), (3, .long v3_5), (5, .int v5_5)]) hx hb dX2_upperBound_38 hl (by decide) rfl (fun ls hl => ?_)
        refine lv_lload_n hx hb dX2_upperBound_40 rfl (lv_at hl 4 rfl) ?_
        refine lv_lload hx hb dX2_upperBound_41 (lv_at hl 0 rfl) ?_
        refine va_mmax_long hx hb (by rw [hml]; exact hl.1.symm) hown (hts (.methodLink RX2 42 Lib.MathLoose.max_long.x) (List.mem_cons_of_mem _ (List.mem_append_left _ (List.mem_append_left _ (List.mem_append_left _ (List.mem_append_left _ (List.mem_append_left _ (List.mem_of_getElem? (i := 1) rfl)))))))) (hts (.static Lib.MathLoose.max_long.x) (List.mem_cons_of_mem _ (List.mem_append_left _ (List.mem_append_left _ (List.mem_append_left _ (List.mem_append_left _ (List.mem_append_left _ (List.mem_of_getElem? (i := 2) rfl)))))))) (hts (.initialized "java/lang/Math") (List.mem_cons_of_mem _ (List.mem_append_left _ (List.mem_append_left _ (List.mem_append_left _ (List.mem_append_left _ (List.mem_append_left _ (List.mem_of_getElem? (i := 3) rfl)))))))) (hts (.code Lib.MathLoose.max_long.x Lib.MathLoose.max_long.code 4 (some .long)) (List.mem_cons_of_mem _ (List.mem_append_left _ (List.mem_append_left _ (List.mem_append_left _ (List.mem_append_left _ (List.mem_append_left _ (List.mem_of_getElem? (i := 4) rfl)))))))) (Nat.le_of_ble_eq_true rfl) (Nat.le_of_ble_eq_true rfl) (Nat.le_of_ble_eq_true rfl) (Nat.le_of_ble_eq_true rfl) dX2_upperBound_43 ?_
        refine lv_lstore_n (lv' := [(3, .long (if r35 < v3_5 then v3_5 else r35)), (6, .long r35), (0, .ref a_lo), (1, .ref a_pl), (2, .int p2), (5, .int v5_5)]) hx hb dX2_upperBound_46 rfl hl (by decide) rfl (fun ls hl => ?_)
        refine lv_iinc (v := (v5_5 + (1 : Int32))) (lv' := [(5, .int (v5_5 + (1 : Int32))), (3, .long (if r35 < v3_5 then v3_5 else r35)), (6, .long r35), (0, .ref a_lo), (1, .ref a_pl), (2, .int p2)]) hx hb dX2_upperBound_47 hl (k := 5) rfl (by rfl) (by decide) rfl (fun ls hl => ?_)
        refine lv_goto (tgt := 5) hx hb dX2_upperBound_50 (by decide) ?_
        exact ih5 (if r35 < v3_5 then v3_5 else r35) (v5_5 + (1 : Int32)) h _ _ _ hP hD hS (lv_sub hl [3, 4, 5, 1, 0] rfl)
  exact hL5 n5 (0 : Int64) (1 : Int32) h _ _ _ hP hD hS (lv_sub hl [2, 3, 4, 1, 0] rfl)

/-- RentOrBuy$Plans.<init> -/
def rmX3_init : Room := { frames := 2, cells := 2, slots := 43, locals := 34 }
set_option maxHeartbeats 4000000 in
set_option maxRecDepth 100000 in
theorem c_X3_init (l : Launch) (dC : Nat → ClassId) (dI : Nat → Nat → Nat) (kA : ClassId) (a_pl : Nat) (sz : Nat)  (K : Int32 → Int32 → Int32 → (Nat → Int32) → Prop) (hg : g_X3_init  K) : Met l yX3_init wsX3_init rmX3_init (va_Pc [.ref a_pl] (prW (dC, dI) kA sz [(a_pl, .inr (3, [.int 0, .null, .null]))])) (va_Qv (fun (u : Int32 × Int32 × Int32 × (Nat → Int32) × Nat × Nat) => K u.1 u.2.1 u.2.2.1 u.2.2.2.1) (poW (dC, dI) (va_A [(a_pl, .inr (3, [.int 0, .null, .null]))] sz) (fun (u : Int32 × Int32 × Int32 × (Nat → Int32) × Nat × Nat) => [(a_pl, .inr (3, [.int u.1, .ref u.2.2.2.2.1, .ref u.2.2.2.2.2])), (u.2.2.2.2.1, .inr (1, [.int u.2.1, .int u.2.2.1])), (u.2.2.2.2.2, .inl (kA, 41, .inl u.2.2.2.1))])) (va_A [(a_pl, .inr (3, [.int 0, .null, .null]))] sz)) 2 43 (va_A [(a_pl, .inr (3, [.int 0, .null, .null]))] sz) := by
  refine Met.ofW (cc := cX3_init) (maxL := 2) (ret := none) (by decide) rfl ?_
  intro p e s m args below meth c s₁ B hml hv
  obtain ⟨hargs, hsz, hP, hK, hD0, hN⟩ := hv
  have hx := B.exec
  have hb := B.bytes
  have hr := B.returns
  have hts := atoms_spec (ws := wsX3_init) B.pre
  have hown : s.vm.findClass RX3 = some m.cls := findClass_of_methodNamed B.named
  have hlocks := B.notSynchronized
  have hin : meth.name = "<init>" := (name_of_methodNamed B.named B.method).1
  subst hsz
  have hD := hD0.self (sz := s.heap.size)
  generalize hAe : va_A [(a_pl, .inr (3, [.int 0, .null, .null]))] s.heap.size = A at hD ⊢
  have hA : ∀ q : Nat, s.heap.size ≤ q → A q := fun q h => by rw [← hAe]; exact Or.inr h
  have hS : va_S A s.heap s.heap [] := va_S.rf
  obtain ⟨Q, hQ⟩ : ∃ Q : State → Prop, Q = MQ below (va_Qv (fun (u : Int32 × Int32 × Int32 × (Nat → Int32) × Nat × Nat) => K u.1 u.2.1 u.2.2.1 u.2.2.2.1) (poW (dC, dI) A (fun (u : Int32 × Int32 × Int32 × (Nat → Int32) × Nat × Nat) => [(a_pl, .inr (3, [.int u.1, .ref u.2.2.2.2.1, .ref u.2.2.2.2.2])), (u.2.2.2.2.1, .inr (1, [.int u.2.1, .int u.2.2.1])), (u.2.2.2.2.2, .inl (kA, 41, .inl u.2.2.2.1))])) A) args s 2 43 A := ⟨_, rfl⟩
  rw [← hQ]
  have hP : va_P (dC, dI) vwCl [(a_pl, .inr (3, [.int 0, .null, .null]))] s.heap := hP
  refine en_ok hargs (Nat.le_of_ble_eq_true rfl) (fun ls hl => ?_)
  have hl : lv_has ls 2 [(0, .ref a_pl)] := hl
  have h := hg
  unfold g_X3_init at h
  refine lv_aload_n hx hb dX3_init_0 rfl (lv_at hl 0 rfl) ?_
  refine W.objInit hx hb hown (hts (.methodLink RX3 3 objectInit) (List.mem_cons_of_mem _ (List.mem_append_left _ (List.mem_append_left _ (List.mem_append_left _ (List.mem_append_left _ (List.mem_of_getElem? (i := 0) rfl))))))) (hts (.instanceMethod objectInit) (List.mem_cons_of_mem _ (List.mem_append_left _ (List.mem_append_left _ (List.mem_append_left _ (List.mem_append_left _ (List.mem_of_getElem? (i := 1) rfl))))))) (hts (.code objectInit ⟨#[0xb1]⟩ 1 none) (List.mem_cons_of_mem _ (List.mem_append_left _ (List.mem_append_left _ (List.mem_append_left _ (List.mem_append_left _ (List.mem_of_getElem? (i := 2) rfl))))))) rfl (by rw [hml]; exact hl.1) rfl dX3_init_1 (Nat.le_of_ble_eq_true rfl) (Nat.le_of_ble_eq_true rfl) ?_
  refine W.eq (g2 := F0 m 4 ls []) rfl ?_
  refine lv_aload_n hx hb dX3_init_4 rfl (lv_at hl 0 rfl) ?_
  refine lv_bipush (v := (20 : Int32)) hx hb dX3_init_5 (by decide +kernel) ?_
  refine va_put (D := (dC, dI)) (ci := 3) (v := .int (20 : Int32)) (ty := .int) (C := RX3) (T := TX3) (N := 3) hx hb hts (fun _ h => List.mem_cons_of_mem _ (List.mem_append_left _ (List.mem_append_left _ (List.mem_append_left _ (List.mem_append_right _ h))))) tyX3 tyX3_ok nmX3 hown hK hP hD hS 0 rfl rfl 0 (by decide) (hts (.fieldLink RX3 9 "RentOrBuy$Plans" "days" "I") (List.mem_cons_of_mem _ (List.mem_append_left _ (List.mem_append_left _ (List.mem_append_left _ (List.mem_append_left _ (List.mem_of_getElem? (i := 3) rfl))))))) (fun _ h9 => h9) rfl (by decide +kernel) rfl rfl (Nat.le_of_ble_eq_true rfl) dX3_init_7 (fun H locs hP hD hS => ?_)
  have hP : va_P (dC, dI) vwCl [(a_pl, .inr (3, [.int (20 : Int32), .null, .null]))] H := hP
  have hD : va_D A [(a_pl, .inr (3, [.int (20 : Int32), .null, .null]))] := hD
  refine lv_aload_n hx hb dX3_init_10 rfl (lv_at hl 0 rfl) ?_
  refine va_new (ci := 1) (fs := [.int 0, .int 0]) (C := RX1) (T := TX1) (N := 2) hx hb hts (fun _ h => List.mem_cons_of_mem _ (List.mem_append_left _ (List.mem_append_left _ (List.mem_append_right _ h)))) tyX1 tyX1_ok hown (hts (.classLink RX3 15 RX1) (List.mem_cons_of_mem _ (List.mem_append_left _ (List.mem_append_left _ (List.mem_append_left _ (List.mem_append_left _ (List.mem_of_getElem? (i := 4) rfl))))))) (hts (.instantiable RX1 2) (List.mem_cons_of_mem _ (List.mem_append_left _ (List.mem_append_left _ (List.mem_append_left _ (List.mem_append_left _ (List.mem_of_getElem? (i := 5) rfl))))))) (hts (.initialized RX1) (List.mem_cons_of_mem _ (List.mem_append_left _ (List.mem_append_left _ (List.mem_append_left _ (List.mem_append_left _ (List.mem_of_getElem? (i := 6) rfl))))))) hK hP hD hS hA rfl (fun j hj => by rcases (show j = 0 ∨ j = 1 by omega) with rfl | rfl <;> rfl) (Nat.le_of_ble_eq_true rfl) (Nat.le_of_ble_eq_true rfl) dX3_init_11 (fun q11 H hP hD hS => ?_)
  have hP : va_P (dC, dI) vwCl [(a_pl, .inr (3, [.int (20 : Int32), .null, .null])), (q11, .inr (1, [.int 0, .int 0]))] H := hP
  have hD : va_D A [(a_pl, .inr (3, [.int (20 : Int32), .null, .null])), (q11, .inr (1, [.int 0, .int 0]))] := hD
  refine lv_dup hx hb dX3_init_14 rfl ?_
  refine lv_iconst (v := (1 : Int32)) hx hb dX3_init_15 (by decide +kernel) ?_
  refine lv_bipush (v := (10 : Int32)) hx hb dX3_init_16 (by decide +kernel) ?_
  have hPc := hP.sub (ws' := [(q11, .inr (1, [.int 0, .int 0]))]) [1] rfl
  have hDc := hD.sub (ws' := [(q11, .inr (1, [.int 0, .int 0]))]) [1] (by decide) rfl
  refine fr_v (wr := [(a_pl, .inr (3, [.int (20 : Int32), .null, .null]))]) (WN := fun (u18 : Int32 × Int32) => [(a_pl, .inr (3, [.int (20 : Int32), .null, .null])), (q11, .inr (1, [.int u18.1, .int u18.2]))]) (va_runI (As := [.int (1 : Int32), .int (10 : Int32)]) (rest := [.ref q11, .ref a_pl]) ⟨hx, hb, hml, hown, hts⟩ (c_X1_init_k0 l dC dI kA q11 H.size (1 : Int32) (10 : Int32) _ h) (cwI 2 hts gX3_init_X1_init rfl rfl rfl (hts (.initialized RX1) (List.mem_cons_of_mem _ (List.mem_append_left _ (List.mem_append_left _ (List.mem_append_left _ (List.mem_append_left _ (List.mem_of_getElem? (i := 6) rfl))))))) (hts (.methodLink RX3 17 yX1_init) (List.mem_cons_of_mem _ (List.mem_append_left _ (List.mem_append_left _ (List.mem_append_left _ (List.mem_append_left _ (List.mem_of_getElem? (i := 10) rfl))))))) (hts (.instanceMethod yX1_init) (List.mem_cons_of_mem _ (List.mem_append_left _ (List.mem_append_left _ (List.mem_append_left _ (List.mem_append_left _ (List.mem_of_getElem? (i := 11) rfl))))))) rfl (by decide +kernel) ⟨Nat.le_of_ble_eq_true rfl, Nat.le_of_ble_eq_true rfl⟩) (prW.preS hPc hDc hK hN) rfl rfl hl.1 rfl (lv_room (Nat.le_of_ble_eq_true rfl)) dX3_init_18 ⟨Nat.le_of_ble_eq_true rfl, Nat.le_of_ble_eq_true rfl⟩) hP hD hS hA [1] [0] rfl rfl (by decide) (by decide) [0, 1] (by decide) (fun _ => rfl) (fun u18 H locs h hP hD hS => ?_)
  obtain ⟨y18_tkd', y18_tkp'⟩ := u18
  have hP : va_P (dC, dI) vwCl [(a_pl, .inr (3, [.int (20 : Int32), .null, .null])), (q11, .inr (1, [.int y18_tkd', .int y18_tkp']))] H := hP
  have hD : va_D A [(a_pl, .inr (3, [.int (20 : Int32), .null, .null])), (q11, .inr (1, [.int y18_tkd', .int y18_tkp']))] := hD
  refine va_put (D := (dC, dI)) (ci := 3) (v := .ref q11) (ty := (.object "RentOrBuy$Flat")) (C := RX3) (T := TX3) (N := 3) hx hb hts (fun _ h => List.mem_cons_of_mem _ (List.mem_append_left _ (List.mem_append_left _ (List.mem_append_left _ (List.mem_append_right _ h))))) tyX3 tyX3_ok nmX3 hown hK hP hD hS 0 rfl rfl 1 (by decide) (hts (.fieldLink RX3 20 "RentOrBuy$Plans" "taken" "LRentOrBuy$Flat;") (List.mem_cons_of_mem _ (List.mem_append_left _ (List.mem_append_left _ (List.mem_append_left _ (List.mem_append_left _ (List.mem_of_getElem? (i := 7) rfl))))))) (fun _ h9 => h9) rfl (by decide +kernel) rfl rfl (Nat.le_of_ble_eq_true rfl) dX3_init_21 (fun H locs hP hD hS => ?_)
  have hP : va_P (dC, dI) vwCl [(a_pl, .inr (3, [.int (20 : Int32), .ref q11, .null])), (q11, .inr (1, [.int y18_tkd', .int y18_tkp']))] H := hP
  have hD : va_D A [(a_pl, .inr (3, [.int (20 : Int32), .ref q11, .null])), (q11, .inr (1, [.int y18_tkd', .int y18_tkp']))] := hD
  refine lv_aload_n hx hb dX3_init_24 rfl (lv_at hl 0 rfl) ?_
  refine lv_bipush (v := (41 : Int32)) hx hb dX3_init_25 (by decide +kernel) ?_
  refine na_i (N' := 41) hx hb (hts (.arrayClass .int) (List.mem_cons_of_mem _ (List.mem_append_left _ (List.mem_append_left _ (List.mem_append_left _ (List.mem_append_left _ (List.mem_of_getElem? (i := 8) rfl))))))) hK hP hD hS hA (by decide) (by decide +kernel) (by decide) (Nat.le_of_ble_eq_true rfl) (Nat.le_of_ble_eq_true rfl) dX3_init_27 (fun q27 H hP hD hS => ?_)
  have hP : va_P (dC, dI) vwCl [(a_pl, .inr (3, [.int (20 : Int32), .ref q11, .null])), (q11, .inr (1, [.int y18_tkd', .int y18_tkp'])), (q27, .inl (kA, 41, .inl (fun _ => (0 : Int32))))] H := hP
  have hD : va_D A [(a_pl, .inr (3, [.int (20 : Int32), .ref q11, .null])), (q11, .inr (1, [.int y18_tkd', .int y18_tkp'])), (q27, .inl (kA, 41, .inl (fun _ => (0 : Int32))))] := hD
  refine va_putF (D := (dC, dI)) (ci := 3) (v := .ref q27) (ty := (.array .int)) (C := RX3) (T := TX3) (N := 3) hx hb hts (fun _ h => List.mem_cons_of_mem _ (List.mem_append_left _ (List.mem_append_left _ (List.mem_append_left _ (List.mem_append_right _ h))))) tyX3 tyX3_ok nmX3 hown hK hP hD hS 0 rfl rfl 2 (by decide) (hts (.fieldLink RX3 24 "RentOrBuy$Plans" "rents" "[I") (List.mem_cons_of_mem _ (List.mem_append_left _ (List.mem_append_left _ (List.mem_append_left _ (List.mem_append_left _ (List.mem_of_getElem? (i := 9) rfl))))))) (fun _ h9 => h9) rfl hin rfl (by decide +kernel) rfl rfl (Nat.le_of_ble_eq_true rfl) dX3_init_29 (fun H locs hP hD hS => ?_)
  have hP : va_P (dC, dI) vwCl [(a_pl, .inr (3, [.int (20 : Int32), .ref q11, .ref q27])), (q11, .inr (1, [.int y18_tkd', .int y18_tkp'])), (q27, .inl (kA, 41, .inl (fun _ => (0 : Int32))))] H := hP
  have hD : va_D A [(a_pl, .inr (3, [.int (20 : Int32), .ref q11, .ref q27])), (q11, .inr (1, [.int y18_tkd', .int y18_tkp'])), (q27, .inl (kA, 41, .inl (fun _ => (0 : Int32))))] := hD
  refine lv_iconst (v := (1 : Int32)) hx hb dX3_init_32 (by decide +kernel) ?_
  refine lv_istore_n (lv' := [(1, .int (1 : Int32)), (0, .ref a_pl)]) hx hb dX3_init_33 rfl hl (by decide) rfl (fun ls hl => ?_)
  obtain ⟨J34, ⟨n34, h⟩, hz34, hs34⟩ := h
  have hL34 : ∀ (n34 : Nat) (v1_34 : Int32) (rsF_34 : Nat → Int32), J34 n34 v1_34 rsF_34 → ∀ (H : Heap) (locs : List Loc) (ls : Array Slot), va_P (dC, dI) vwCl [(a_pl, .inr (3, [.int (20 : Int32), .ref q11, .ref q27])), (q11, .inr (1, [.int y18_tkd', .int y18_tkp'])), (q27, .inl (kA, 41, .inl rsF_34))] H → va_D A [(a_pl, .inr (3, [.int (20 : Int32), .ref q11, .ref q27])), (q11, .inr (1, [.int y18_tkd', .int y18_tkp'])), (q27, .inl (kA, 41, .inl rsF_34))] → va_S A s.heap H locs → lv_has ls 2 [(0, .ref a_pl), (1, .int v1_34)] → W p l e (headSpec wsX3_init rmX3_init).room s m args below meth c H locs 2 43 Q (F0 m 34 ls []) := by
    intro n34
    induction n34 with
    | zero => intro v1_34 rsF_34 h; exact absurd h (hz34 v1_34 rsF_34)
    | succ n34 ih34 =>
      intro v1_34 rsF_34 h H locs ls hP hD hS hl
      replace h := hs34 n34 v1_34 rsF_34 h
      refine lv_iload_n hx hb dX3_init_34 rfl (lv_at hl 1 rfl) ?_
      refine lv_bipush (v := (40 : Int32)) hx hb dX3_init_35 (by decide +kernel) ?_
      refine lv_icmp_gt (tgt := 62) hx hb dX3_init_37 (by decide) (fun c37 => ?_) (fun c37 => ?_)
      · replace h := h.1 c37
        rw [hQ]
        exact rt_v ((20 : Int32), y18_tkd', y18_tkp', rsF_34, q11, q27) hx hb hr hlocks h hP hD hS dX3_init_62
      · replace h := h.2 c37
        refine lv_aload_n hx hb dX3_init_40 rfl (lv_at hl 0 rfl) ?_
        refine va_get (D := (dC, dI)) (ci := 3) (v := .ref q27) (C := RX3) (T := TX3) (N := 3) hx hb hts (fun _ h => List.mem_cons_of_mem _ (List.mem_append_left _ (List.mem_append_left _ (List.mem_append_left _ (List.mem_append_right _ h))))) hown hK hP 0 rfl rfl 2 (by decide) (hts (.fieldLink RX3 24 "RentOrBuy$Plans" "rents" "[I") (List.mem_cons_of_mem _ (List.mem_append_left _ (List.mem_append_left _ (List.mem_append_left _ (List.mem_append_left _ (List.mem_of_getElem? (i := 9) rfl))))))) (fun _ h9 => h9) rfl dX3_init_41 ?_
        refine lv_iload_n hx hb dX3_init_44 rfl (lv_at hl 1 rfl) ?_
        refine lv_aload_n hx hb dX3_init_45 rfl (lv_at hl 0 rfl) ?_
        refine va_get (D := (dC, dI)) (ci := 3) (v := .ref q27) (C := RX3) (T := TX3) (N := 3) hx hb hts (fun _ h => List.mem_cons_of_mem _ (List.mem_append_left _ (List.mem_append_left _ (List.mem_append_left _ (List.mem_append_right _ h))))) hown hK hP 0 rfl rfl 2 (by decide) (hts (.fieldLink RX3 24 "RentOrBuy$Plans" "rents" "[I") (List.mem_cons_of_mem _ (List.mem_append_left _ (List.mem_append_left _ (List.mem_append_left _ (List.mem_append_left _ (List.mem_of_getElem? (i := 9) rfl))))))) (fun _ h9 => h9) rfl dX3_init_46 ?_
        refine lv_iload_n hx hb dX3_init_49 rfl (lv_at hl 1 rfl) ?_
        refine lv_iconst (v := (1 : Int32)) hx hb dX3_init_50 (by decide +kernel) ?_
        refine lv_isub hx hb dX3_init_51 ?_
        obtain ⟨hi52, h⟩ := h
        refine va_iald hx hb hK hP 2 0 rfl rfl hi52 dX3_init_52 ?_
        refine lv_iconst (v := (1 : Int32)) hx hb dX3_init_53 (by decide +kernel) ?_
        refine lv_iadd hx hb dX3_init_54 ?_
        obtain ⟨hi55, h⟩ := h
        refine va_iast hx hb hK hP hD hS 2 0 rfl rfl hi55 dX3_init_55 (fun H locs hP hD hS => ?_)
        have hP : va_P (dC, dI) vwCl [(a_pl, .inr (3, [.int (20 : Int32), .ref q11, .ref q27])), (q11, .inr (1, [.int y18_tkd', .int y18_tkp'])), (q27, .inl (kA, 41, .inl (upd rsF_34 v1_34.toNatClampNeg ((rsF_34 (v1_34 - (1 : Int32)).toNatClampNeg) + (1 : Int32)))))] H := hP
        have hD : va_D A [(a_pl, .inr (3, [.int (20 : Int32), .ref q11, .ref q27])), (q11, .inr (1, [.int y18_tkd', .int y18_tkp'])), (q27, .inl (kA, 41, .inl (upd rsF_34 v1_34.toNatClampNeg ((rsF_34 (v1_34 - (1 : Int32)).toNatClampNeg) + (1 : Int32)))))] := hD
        refine lv_iinc (v := (v1_34 + (1 : Int32))) (lv' := [(1, .int (v1_34 + (1 : Int32))), (0, .ref a_pl)]) hx hb dX3_init_56 hl (k := 1) rfl (by rfl) (by decide) rfl (fun ls hl => ?_)
        refine lv_goto (tgt := 34) hx hb dX3_init_59 (by decide) ?_
        exact ih34 (v1_34 + (1 : Int32)) (upd rsF_34 v1_34.toNatClampNeg ((rsF_34 (v1_34 - (1 : Int32)).toNatClampNeg) + (1 : Int32))) h _ _ _ hP hD hS (lv_sub hl [1, 0] rfl)
  exact hL34 n34 (1 : Int32) (fun _ => (0 : Int32)) h _ _ _ hP hD hS (lv_sub hl [1, 0] rfl)

/-- RentOrBuy.isWithin -/
def rmX6_isWithin : Room := { frames := 0, cells := 0, slots := 0, locals := 0 }
set_option maxHeartbeats 4000000 in
set_option maxRecDepth 100000 in
theorem c_X6_isWithin (l : Launch) (dC : Nat → ClassId) (dI : Nat → Nat → Nat) (kA : ClassId) (sz : Nat) (p1 : Int32) (p2 : Int32) (p3 : Int32) (K : Int32 → Prop) (hg : g_X6_isWithin p1 p2 p3 K) : Met l yX6_isWithin wsX6_isWithin rmX6_isWithin (va_Pc [.int p1, .int p2, .int p3] (prW (dC, dI) kA sz [])) (va_Qi (fun (r : Int32) (u : Unit) => K r) (poW (dC, dI) (va_A [] sz) (fun (u : Unit) => [])) (va_A [] sz)) 0 0 (va_A [] sz) := by
  refine Met.ofW (cc := cX6_isWithin) (maxL := 3) (ret := (some .boolean)) (by decide) rfl ?_
  intro p e s m args below meth c s₁ B hml hv
  obtain ⟨hargs, hsz, hP, hK, hD0, hN⟩ := hv
  have hx := B.exec
  have hb := B.bytes
  have hr := B.returns
  have hts := atoms_spec (ws := wsX6_isWithin) B.pre
  have hown : s.vm.findClass RX6 = some m.cls := findClass_of_methodNamed B.named
  have hlocks := B.notSynchronized
  subst hsz
  have hD := hD0.self (sz := s.heap.size)
  generalize hAe : va_A [] s.heap.size = A at hD ⊢
  have hA : ∀ q : Nat, s.heap.size ≤ q → A q := fun q h => by rw [← hAe]; exact Or.inr h
  have hS : va_S A s.heap s.heap [] := va_S.rf
  obtain ⟨Q, hQ⟩ : ∃ Q : State → Prop, Q = MQ below (va_Qi (fun (r : Int32) (u : Unit) => K r) (poW (dC, dI) A (fun (u : Unit) => [])) A) args s 0 0 A := ⟨_, rfl⟩
  rw [← hQ]
  have hP : va_P (dC, dI) vwCl [] s.heap := hP
  refine en_ok hargs (Nat.le_of_ble_eq_true rfl) (fun ls hl => ?_)
  have hl : lv_has ls 3 [(0, .int p1), (1, .int p2), (2, .int p3)] := hl
  have h := hg
  unfold g_X6_isWithin at h
  refine lv_iload_n hx hb dX6_isWithin_0 rfl (lv_at hl 1 rfl) ?_
  refine lv_iload_n hx hb dX6_isWithin_1 rfl (lv_at hl 0 rfl) ?_
  refine lv_icmp_gt (tgt := 14) hx hb dX6_isWithin_2 (by decide) (fun c2 => ?_) (fun c2 => ?_)
  · replace h := h.1 c2
    refine lv_iconst (v := (0 : Int32)) hx hb dX6_isWithin_14 (by decide +kernel) ?_
    rw [hQ]
    exact rt_z () hx hb hr hlocks (by decide) h hP hD hS dX6_isWithin_15
  · replace h := h.2 c2
    refine lv_iload_n hx hb dX6_isWithin_5 rfl (lv_at hl 0 rfl) ?_
    refine lv_iload_n hx hb dX6_isWithin_6 rfl (lv_at hl 2 rfl) ?_
    refine lv_icmp_gt (tgt := 14) hx hb dX6_isWithin_7 (by decide) (fun c7 => ?_) (fun c7 => ?_)
    · replace h := h.1 c7
      refine lv_iconst (v := (0 : Int32)) hx hb dX6_isWithin_14 (by decide +kernel) ?_
      rw [hQ]
      exact rt_z () hx hb hr hlocks (by decide) h hP hD hS dX6_isWithin_15
    · replace h := h.2 c7
      refine lv_iconst (v := (1 : Int32)) hx hb dX6_isWithin_10 (by decide +kernel) ?_
      refine lv_goto (tgt := 15) hx hb dX6_isWithin_11 (by decide) ?_
      rw [hQ]
      exact rt_z () hx hb hr hlocks (by decide) h hP hD hS dX6_isWithin_15

/-- RentOrBuy$Plans.isEnd -/
def rmX3_isEnd : Room := { frames := 1, cells := 0, slots := 0, locals := 22 }
set_option maxHeartbeats 4000000 in
set_option maxRecDepth 100000 in
theorem c_X3_isEnd (l : Launch) (dC : Nat → ClassId) (dI : Nat → Nat → Nat) (kA : ClassId) (a_pl a_tk a_rs : Nat) (sz : Nat) (days : Int32) (p1 : Int32) (K : Int32 → Prop) (hg : g_X3_isEnd days p1 K) : Met l yX3_isEnd wsX3_isEnd rmX3_isEnd (va_Pc [.ref a_pl, .int p1] (prW (dC, dI) kA sz [(a_pl, .inr (3, [.int days, .ref a_tk, .ref a_rs]))])) (va_Qi (fun (r : Int32) (u : Unit) => K r) (poW (dC, dI) (va_A [(a_pl, .inr (3, [.int days, .ref a_tk, .ref a_rs]))] sz) (fun (u : Unit) => [(a_pl, .inr (3, [.int days, .ref a_tk, .ref a_rs]))])) (va_A [(a_pl, .inr (3, [.int days, .ref a_tk, .ref a_rs]))] sz)) 0 0 (va_A [(a_pl, .inr (3, [.int days, .ref a_tk, .ref a_rs]))] sz) := by
  refine Met.ofW (cc := cX3_isEnd) (maxL := 2) (ret := (some .boolean)) (by decide) rfl ?_
  intro p e s m args below meth c s₁ B hml hv
  obtain ⟨hargs, hsz, hP, hK, hD0, hN⟩ := hv
  have hx := B.exec
  have hb := B.bytes
  have hr := B.returns
  have hts := atoms_spec (ws := wsX3_isEnd) B.pre
  have hown : s.vm.findClass RX3 = some m.cls := findClass_of_methodNamed B.named
  have hlocks := B.notSynchronized
  subst hsz
  have hD := hD0.self (sz := s.heap.size)
  generalize hAe : va_A [(a_pl, .inr (3, [.int days, .ref a_tk, .ref a_rs]))] s.heap.size = A at hD ⊢
  have hA : ∀ q : Nat, s.heap.size ≤ q → A q := fun q h => by rw [← hAe]; exact Or.inr h
  have hS : va_S A s.heap s.heap [] := va_S.rf
  obtain ⟨Q, hQ⟩ : ∃ Q : State → Prop, Q = MQ below (va_Qi (fun (r : Int32) (u : Unit) => K r) (poW (dC, dI) A (fun (u : Unit) => [(a_pl, .inr (3, [.int days, .ref a_tk, .ref a_rs]))])) A) args s 0 0 A := ⟨_, rfl⟩
  rw [← hQ]
  have hP : va_P (dC, dI) vwCl [(a_pl, .inr (3, [.int days, .ref a_tk, .ref a_rs]))] s.heap := hP
  refine en_ok hargs (Nat.le_of_ble_eq_true rfl) (fun ls hl => ?_)
  have hl : lv_has ls 2 [(0, .ref a_pl), (1, .int p1)] := hl
  have h := hg
  unfold g_X3_isEnd at h
  refine lv_iload_n hx hb dX3_isEnd_0 rfl (lv_at hl 1 rfl) ?_
  refine lv_iconst (v := (1 : Int32)) hx hb dX3_isEnd_1 (by decide +kernel) ?_
  refine lv_aload_n hx hb dX3_isEnd_2 rfl (lv_at hl 0 rfl) ?_
  refine va_get (D := (dC, dI)) (ci := 3) (v := .int days) (C := RX3) (T := TX3) (N := 3) hx hb hts (fun _ h => List.mem_cons_of_mem _ (List.mem_append_right _ h)) hown hK hP 0 rfl rfl 0 (by decide) (hts (.fieldLink RX3 9 "RentOrBuy$Plans" "days" "I") (List.mem_cons_of_mem _ (List.mem_append_left _ (List.mem_of_getElem? (i := 0) rfl)))) (fun _ h9 => h9) rfl dX3_isEnd_3 ?_
  have hPc := hP.sub (ws' := []) [] rfl
  have hDc := hD.sub (ws' := []) [] (by decide) rfl
  refine fr_i (wr := [(a_pl, .inr (3, [.int days, .ref a_tk, .ref a_rs]))]) (WN := fun (u6 : Unit) => [(a_pl, .inr (3, [.int days, .ref a_tk, .ref a_rs]))]) (va_runSN (As := [.int p1, .int (1 : Int32), .int days]) (rest := []) ⟨hx, hb, hml, hown, hts⟩ (c_X6_isWithin l dC dI kA s.heap.size p1 (1 : Int32) days _ h) ⟨va_cnB 3 hts gX3_isEnd_X6_isWithin_n32 rfl rfl rfl (hN.m 0 rfl) (hts (.initialized RX6) (List.mem_cons_of_mem _ (List.mem_append_left _ (List.mem_of_getElem? (i := 2) rfl)))) (by decide +kernel) ⟨Nat.le_of_ble_eq_true rfl, Nat.le_of_ble_eq_true rfl⟩, (hts (.static yX6_isWithin) (List.mem_cons_of_mem _ (List.mem_append_left _ (List.mem_of_getElem? (i := 1) rfl)))), trivial⟩ (prW.preS hPc hDc hK hN) rfl rfl hl.1 rfl (lv_room (Nat.le_of_ble_eq_true rfl)) dX3_isEnd_6 ⟨Nat.le_of_ble_eq_true rfl, Nat.le_of_ble_eq_true rfl⟩) hP hD hS hA [] [0] rfl rfl (by decide) (by decide) [0] (by decide) (fun _ => rfl) (fun r6 u6 H locs h hP hD hS => ?_)
  have hP : va_P (dC, dI) vwCl [(a_pl, .inr (3, [.int days, .ref a_tk, .ref a_rs]))] H := hP
  have hD : va_D A [(a_pl, .inr (3, [.int days, .ref a_tk, .ref a_rs]))] := hD
  obtain ⟨hzz, h⟩ := h
  rw [hQ]
  exact rt_z () hx hb hr hlocks hzz h hP hD hS dX3_isEnd_9

/-- RentOrBuy$Plans.isPlan -/
def rmX3_isPlan : Room := { frames := 1, cells := 0, slots := 0, locals := 22 }
set_option maxHeartbeats 4000000 in
set_option maxRecDepth 100000 in
theorem c_X3_isPlan (l : Launch) (dC : Nat → ClassId) (dI : Nat → Nat → Nat) (kA : ClassId) (a_pl a_tk a_rs : Nat) (sz : Nat) (days : Int32) (p1 : Int32) (K : Int32 → Prop) (hg : g_X3_isPlan days p1 K) : Met l yX3_isPlan wsX3_isPlan rmX3_isPlan (va_Pc [.ref a_pl, .int p1] (prW (dC, dI) kA sz [(a_pl, .inr (3, [.int days, .ref a_tk, .ref a_rs]))])) (va_Qi (fun (r : Int32) (u : Unit) => K r) (poW (dC, dI) (va_A [(a_pl, .inr (3, [.int days, .ref a_tk, .ref a_rs]))] sz) (fun (u : Unit) => [(a_pl, .inr (3, [.int days, .ref a_tk, .ref a_rs]))])) (va_A [(a_pl, .inr (3, [.int days, .ref a_tk, .ref a_rs]))] sz)) 0 0 (va_A [(a_pl, .inr (3, [.int days, .ref a_tk, .ref a_rs]))] sz) := by
  refine Met.ofW (cc := cX3_isPlan) (maxL := 2) (ret := (some .boolean)) (by decide) rfl ?_
  intro p e s m args below meth c s₁ B hml hv
  obtain ⟨hargs, hsz, hP, hK, hD0, hN⟩ := hv
  have hx := B.exec
  have hb := B.bytes
  have hr := B.returns
  have hts := atoms_spec (ws := wsX3_isPlan) B.pre
  have hown : s.vm.findClass RX3 = some m.cls := findClass_of_methodNamed B.named
  have hlocks := B.notSynchronized
  subst hsz
  have hD := hD0.self (sz := s.heap.size)
  generalize hAe : va_A [(a_pl, .inr (3, [.int days, .ref a_tk, .ref a_rs]))] s.heap.size = A at hD ⊢
  have hA : ∀ q : Nat, s.heap.size ≤ q → A q := fun q h => by rw [← hAe]; exact Or.inr h
  have hS : va_S A s.heap s.heap [] := va_S.rf
  obtain ⟨Q, hQ⟩ : ∃ Q : State → Prop, Q = MQ below (va_Qi (fun (r : Int32) (u : Unit) => K r) (poW (dC, dI) A (fun (u : Unit) => [(a_pl, .inr (3, [.int days, .ref a_tk, .ref a_rs]))])) A) args s 0 0 A := ⟨_, rfl⟩
  rw [← hQ]
  have hP : va_P (dC, dI) vwCl [(a_pl, .inr (3, [.int days, .ref a_tk, .ref a_rs]))] s.heap := hP
  refine en_ok hargs (Nat.le_of_ble_eq_true rfl) (fun ls hl => ?_)
  have hl : lv_has ls 2 [(0, .ref a_pl), (1, .int p1)] := hl
  have h := hg
  unfold g_X3_isPlan at h
  refine lv_iload_n hx hb dX3_isPlan_0 rfl (lv_at hl 1 rfl) ?_
  refine lv_iconst (v := (1 : Int32)) hx hb dX3_isPlan_1 (by decide +kernel) ?_
  refine lv_aload_n hx hb dX3_isPlan_2 rfl (lv_at hl 0 rfl) ?_
  refine va_get (D := (dC, dI)) (ci := 3) (v := .int days) (C := RX3) (T := TX3) (N := 3) hx hb hts (fun _ h => List.mem_cons_of_mem _ (List.mem_append_right _ h)) hown hK hP 0 rfl rfl 0 (by decide) (hts (.fieldLink RX3 9 "RentOrBuy$Plans" "days" "I") (List.mem_cons_of_mem _ (List.mem_append_left _ (List.mem_of_getElem? (i := 0) rfl)))) (fun _ h9 => h9) rfl dX3_isPlan_3 ?_
  refine lv_iconst (v := (1 : Int32)) hx hb dX3_isPlan_6 (by decide +kernel) ?_
  refine lv_iadd hx hb dX3_isPlan_7 ?_
  have hPc := hP.sub (ws' := []) [] rfl
  have hDc := hD.sub (ws' := []) [] (by decide) rfl
  refine fr_i (wr := [(a_pl, .inr (3, [.int days, .ref a_tk, .ref a_rs]))]) (WN := fun (u8 : Unit) => [(a_pl, .inr (3, [.int days, .ref a_tk, .ref a_rs]))]) (va_runSN (As := [.int p1, .int (1 : Int32), .int (days + (1 : Int32))]) (rest := []) ⟨hx, hb, hml, hown, hts⟩ (c_X6_isWithin l dC dI kA s.heap.size p1 (1 : Int32) (days + (1 : Int32)) _ h) ⟨va_cnB 3 hts gX3_isPlan_X6_isWithin_n32 rfl rfl rfl (hN.m 0 rfl) (hts (.initialized RX6) (List.mem_cons_of_mem _ (List.mem_append_left _ (List.mem_of_getElem? (i := 2) rfl)))) (by decide +kernel) ⟨Nat.le_of_ble_eq_true rfl, Nat.le_of_ble_eq_true rfl⟩, (hts (.static yX6_isWithin) (List.mem_cons_of_mem _ (List.mem_append_left _ (List.mem_of_getElem? (i := 1) rfl)))), trivial⟩ (prW.preS hPc hDc hK hN) rfl rfl hl.1 rfl (lv_room (Nat.le_of_ble_eq_true rfl)) dX3_isPlan_8 ⟨Nat.le_of_ble_eq_true rfl, Nat.le_of_ble_eq_true rfl⟩) hP hD hS hA [] [0] rfl rfl (by decide) (by decide) [0] (by decide) (fun _ => rfl) (fun r8 u8 H locs h hP hD hS => ?_)
  have hP : va_P (dC, dI) vwCl [(a_pl, .inr (3, [.int days, .ref a_tk, .ref a_rs]))] H := hP
  have hD : va_D A [(a_pl, .inr (3, [.int days, .ref a_tk, .ref a_rs]))] := hD
  obtain ⟨hzz, h⟩ := h
  rw [hQ]
  exact rt_z () hx hb hr hlocks hzz h hP hD hS dX3_isPlan_11

/-- RentOrBuy$Plans.isRatioGreater -/
def rmX3_isRatioGreater : Room := { frames := 2, cells := 0, slots := 0, locals := 34 }
set_option maxHeartbeats 4000000 in
set_option maxRecDepth 100000 in
theorem c_X3_isRatioGreater (l : Launch) (dC : Nat → ClassId) (dI : Nat → Nat → Nat) (kA : ClassId) (a_pl a_tk a_rs : Nat) (sz : Nat) (days : Int32) (tkk : Nat) (tkd : Int32) (tkp : Int32) (tkr : Int32) (tkc : Int32) (rsF : Nat → Int32) (p1 : Int32) (p2 : Int32) (p3 : Int32) (p4 : Int32) (K : Int32 → Prop) (hg : g_X3_isRatioGreater days tkk tkd tkp tkr tkc rsF p1 p2 p3 p4 K) : Met l yX3_isRatioGreater wsX3_isRatioGreater rmX3_isRatioGreater (va_Pc [.ref a_pl, .int p1, .int p2, .int p3, .int p4] (prW (dC, dI) kA sz [(a_pl, .inr (3, [.int days, .ref a_tk, .ref a_rs])), (a_tk, tkE tkk tkd tkp tkr tkc), (a_rs, .inl (kA, 41, .inl rsF))])) (va_Qi (fun (r : Int32) (u : Unit) => K r) (poW (dC, dI) (va_A [(a_pl, .inr (3, [.int days, .ref a_tk, .ref a_rs])), (a_tk, tkE tkk tkd tkp tkr tkc), (a_rs, .inl (kA, 41, .inl rsF))] sz) (fun (u : Unit) => [(a_pl, .inr (3, [.int days, .ref a_tk, .ref a_rs])), (a_tk, tkE tkk tkd tkp tkr tkc), (a_rs, .inl (kA, 41, .inl rsF))])) (va_A [(a_pl, .inr (3, [.int days, .ref a_tk, .ref a_rs])), (a_tk, tkE tkk tkd tkp tkr tkc), (a_rs, .inl (kA, 41, .inl rsF))] sz)) 0 0 (va_A [(a_pl, .inr (3, [.int days, .ref a_tk, .ref a_rs])), (a_tk, tkE tkk tkd tkp tkr tkc), (a_rs, .inl (kA, 41, .inl rsF))] sz) := by
  refine Met.ofW (cc := cX3_isRatioGreater) (maxL := 5) (ret := (some .boolean)) (by decide) rfl ?_
  intro p e s m args below meth c s₁ B hml hv
  obtain ⟨hargs, hsz, hP, hK, hD0, hN⟩ := hv
  have hx := B.exec
  have hb := B.bytes
  have hr := B.returns
  have hts := atoms_spec (ws := wsX3_isRatioGreater) B.pre
  have hown : s.vm.findClass RX3 = some m.cls := findClass_of_methodNamed B.named
  have hlocks := B.notSynchronized
  subst hsz
  have hD := hD0.self (sz := s.heap.size)
  generalize hAe : va_A [(a_pl, .inr (3, [.int days, .ref a_tk, .ref a_rs])), (a_tk, tkE tkk tkd tkp tkr tkc), (a_rs, .inl (kA, 41, .inl rsF))] s.heap.size = A at hD ⊢
  have hA : ∀ q : Nat, s.heap.size ≤ q → A q := fun q h => by rw [← hAe]; exact Or.inr h
  have hS : va_S A s.heap s.heap [] := va_S.rf
  obtain ⟨Q, hQ⟩ : ∃ Q : State → Prop, Q = MQ below (va_Qi (fun (r : Int32) (u : Unit) => K r) (poW (dC, dI) A (fun (u : Unit) => [(a_pl, .inr (3, [.int days, .ref a_tk, .ref a_rs])), (a_tk, tkE tkk tkd tkp tkr tkc), (a_rs, .inl (kA, 41, .inl rsF))])) A) args s 0 0 A := ⟨_, rfl⟩
  rw [← hQ]
  have hP : va_P (dC, dI) vwCl [(a_pl, .inr (3, [.int days, .ref a_tk, .ref a_rs])), (a_tk, tkE tkk tkd tkp tkr tkc), (a_rs, .inl (kA, 41, .inl rsF))] s.heap := hP
  refine en_ok hargs (Nat.le_of_ble_eq_true rfl) (fun ls hl => ?_)
  have hl : lv_has ls 5 [(0, .ref a_pl), (1, .int p1), (2, .int p2), (3, .int p3), (4, .int p4)] := hl
  have h := hg
  unfold g_X3_isRatioGreater at h
  refine lv_aload_n hx hb dX3_isRatioGreater_0 rfl (lv_at hl 0 rfl) ?_
  refine lv_iload_n hx hb dX3_isRatioGreater_1 rfl (lv_at hl 1 rfl) ?_
  refine lv_iload_n hx hb dX3_isRatioGreater_2 rfl (lv_at hl 2 rfl) ?_
  have hPc := hP.sub (ws' := [(a_pl, .inr (3, [.int days, .ref a_tk, .ref a_rs])), (a_tk, tkE tkk tkd tkp tkr tkc), (a_rs, .inl (kA, 41, .inl rsF))]) [0, 1, 2] rfl
  have hDc := hD.sub (ws' := [(a_pl, .inr (3, [.int days, .ref a_tk, .ref a_rs])), (a_tk, tkE tkk tkd tkp tkr tkc), (a_rs, .inl (kA, 41, .inl rsF))]) [0, 1, 2] (by decide) rfl
  refine fr_i (wr := []) (WN := fun (u3 : Unit) => [(a_pl, .inr (3, [.int days, .ref a_tk, .ref a_rs])), (a_tk, tkE tkk tkd tkp tkr tkc), (a_rs, .inl (kA, 41, .inl rsF))]) (va_runV (As := [.int p1, .int p2]) (rest := []) ⟨hx, hb, hml, hown, hts⟩ (c_X3_costOf l dC dI kA a_pl a_tk a_rs s.heap.size days tkk tkd tkp tkr tkc rsF p1 p2 _ h) (cwV 2 hts gX3_isRatioGreater_X3_costOf rfl rfl rfl (by decide +kernel) ⟨Nat.le_of_ble_eq_true rfl, Nat.le_of_ble_eq_true rfl⟩) (prW.preV (ci := 3) (q0 := 0) hPc hDc hK hN rfl rfl) rfl rfl hl.1 rfl (lv_room (Nat.le_of_ble_eq_true rfl)) dX3_isRatioGreater_3 ⟨Nat.le_of_ble_eq_true rfl, Nat.le_of_ble_eq_true rfl⟩) hP hD hS hA [0, 1, 2] [] rfl rfl (by decide) (by decide) [0, 1, 2] (by decide) (fun _ => rfl) (fun r3 u3 H locs h hP hD hS => ?_)
  have hP : va_P (dC, dI) vwCl [(a_pl, .inr (3, [.int days, .ref a_tk, .ref a_rs])), (a_tk, tkE tkk tkd tkp tkr tkc), (a_rs, .inl (kA, 41, .inl rsF))] H := hP
  have hD : va_D A [(a_pl, .inr (3, [.int days, .ref a_tk, .ref a_rs])), (a_tk, tkE tkk tkd tkp tkr tkc), (a_rs, .inl (kA, 41, .inl rsF))] := hD
  refine lv_i2l hx hb dX3_isRatioGreater_6 rfl ?_
  refine lv_aload_n hx hb dX3_isRatioGreater_7 rfl (lv_at hl 0 rfl) ?_
  refine lv_iload hx hb dX3_isRatioGreater_8 (lv_at hl 4 rfl) ?_
  have hPc := hP.sub (ws' := [(a_pl, .inr (3, [.int days, .ref a_tk, .ref a_rs])), (a_tk, tkE tkk tkd tkp tkr tkc), (a_rs, .inl (kA, 41, .inl rsF))]) [0, 1, 2] rfl
  have hDc := hD.sub (ws' := [(a_pl, .inr (3, [.int days, .ref a_tk, .ref a_rs])), (a_tk, tkE tkk tkd tkp tkr tkc), (a_rs, .inl (kA, 41, .inl rsF))]) [0, 1, 2] (by decide) rfl
  refine fr_i (wr := []) (WN := fun (u10 : Unit) => [(a_pl, .inr (3, [.int days, .ref a_tk, .ref a_rs])), (a_tk, tkE tkk tkd tkp tkr tkc), (a_rs, .inl (kA, 41, .inl rsF))]) (va_runV (As := [.int p4]) (rest := [.long r3.toInt64]) ⟨hx, hb, hml, hown, hts⟩ (c_X3_knownBy l dC dI kA a_pl a_tk a_rs H.size days tkk tkd tkp tkr tkc rsF p4 _ h) (cwV 1 hts gX3_isRatioGreater_X3_knownBy rfl rfl rfl (by decide +kernel) ⟨Nat.le_of_ble_eq_true rfl, Nat.le_of_ble_eq_true rfl⟩) (prW.preV (ci := 3) (q0 := 0) hPc hDc hK hN rfl rfl) rfl rfl hl.1 rfl (lv_room (Nat.le_of_ble_eq_true rfl)) dX3_isRatioGreater_10 ⟨Nat.le_of_ble_eq_true rfl, Nat.le_of_ble_eq_true rfl⟩) hP hD hS hA [0, 1, 2] [] rfl rfl (by decide) (by decide) [0, 1, 2] (by decide) (fun _ => rfl) (fun r10 u10 H locs h hP hD hS => ?_)
  have hP : va_P (dC, dI) vwCl [(a_pl, .inr (3, [.int days, .ref a_tk, .ref a_rs])), (a_tk, tkE tkk tkd tkp tkr tkc), (a_rs, .inl (kA, 41, .inl rsF))] H := hP
  have hD : va_D A [(a_pl, .inr (3, [.int days, .ref a_tk, .ref a_rs])), (a_tk, tkE tkk tkd tkp tkr tkc), (a_rs, .inl (kA, 41, .inl rsF))] := hD
  refine lv_i2l hx hb dX3_isRatioGreater_13 rfl ?_
  refine lv_lmul hx hb dX3_isRatioGreater_14 ?_
  refine lv_aload_n hx hb dX3_isRatioGreater_15 rfl (lv_at hl 0 rfl) ?_
  refine lv_iload_n hx hb dX3_isRatioGreater_16 rfl (lv_at hl 3 rfl) ?_
  refine lv_iload hx hb dX3_isRatioGreater_17 (lv_at hl 4 rfl) ?_
  have hPc := hP.sub (ws' := [(a_pl, .inr (3, [.int days, .ref a_tk, .ref a_rs])), (a_tk, tkE tkk tkd tkp tkr tkc), (a_rs, .inl (kA, 41, .inl rsF))]) [0, 1, 2] rfl
  have hDc := hD.sub (ws' := [(a_pl, .inr (3, [.int days, .ref a_tk, .ref a_rs])), (a_tk, tkE tkk tkd tkp tkr tkc), (a_rs, .inl (kA, 41, .inl rsF))]) [0, 1, 2] (by decide) rfl
  refine fr_i (wr := []) (WN := fun (u19 : Unit) => [(a_pl, .inr (3, [.int days, .ref a_tk, .ref a_rs])), (a_tk, tkE tkk tkd tkp tkr tkc), (a_rs, .inl (kA, 41, .inl rsF))]) (va_runV (As := [.int p3, .int p4]) (rest := [.long (r3.toInt64 * r10.toInt64)]) ⟨hx, hb, hml, hown, hts⟩ (c_X3_costOf l dC dI kA a_pl a_tk a_rs H.size days tkk tkd tkp tkr tkc rsF p3 p4 _ h) (cwV 2 hts gX3_isRatioGreater_X3_costOf rfl rfl rfl (by decide +kernel) ⟨Nat.le_of_ble_eq_true rfl, Nat.le_of_ble_eq_true rfl⟩) (prW.preV (ci := 3) (q0 := 0) hPc hDc hK hN rfl rfl) rfl rfl hl.1 rfl (lv_room (Nat.le_of_ble_eq_true rfl)) dX3_isRatioGreater_19 ⟨Nat.le_of_ble_eq_true rfl, Nat.le_of_ble_eq_true rfl⟩) hP hD hS hA [0, 1, 2] [] rfl rfl (by decide) (by decide) [0, 1, 2] (by decide) (fun _ => rfl) (fun r19 u19 H locs h hP hD hS => ?_)
  have hP : va_P (dC, dI) vwCl [(a_pl, .inr (3, [.int days, .ref a_tk, .ref a_rs])), (a_tk, tkE tkk tkd tkp tkr tkc), (a_rs, .inl (kA, 41, .inl rsF))] H := hP
  have hD : va_D A [(a_pl, .inr (3, [.int days, .ref a_tk, .ref a_rs])), (a_tk, tkE tkk tkd tkp tkr tkc), (a_rs, .inl (kA, 41, .inl rsF))] := hD
  refine lv_i2l hx hb dX3_isRatioGreater_22 rfl ?_
  refine lv_aload_n hx hb dX3_isRatioGreater_23 rfl (lv_at hl 0 rfl) ?_
  refine lv_iload_n hx hb dX3_isRatioGreater_24 rfl (lv_at hl 2 rfl) ?_
  have hPc := hP.sub (ws' := [(a_pl, .inr (3, [.int days, .ref a_tk, .ref a_rs])), (a_tk, tkE tkk tkd tkp tkr tkc), (a_rs, .inl (kA, 41, .inl rsF))]) [0, 1, 2] rfl
  have hDc := hD.sub (ws' := [(a_pl, .inr (3, [.int days, .ref a_tk, .ref a_rs])), (a_tk, tkE tkk tkd tkp tkr tkc), (a_rs, .inl (kA, 41, .inl rsF))]) [0, 1, 2] (by decide) rfl
  refine fr_i (wr := []) (WN := fun (u25 : Unit) => [(a_pl, .inr (3, [.int days, .ref a_tk, .ref a_rs])), (a_tk, tkE tkk tkd tkp tkr tkc), (a_rs, .inl (kA, 41, .inl rsF))]) (va_runV (As := [.int p2]) (rest := [.long r19.toInt64, .long (r3.toInt64 * r10.toInt64)]) ⟨hx, hb, hml, hown, hts⟩ (c_X3_knownBy l dC dI kA a_pl a_tk a_rs H.size days tkk tkd tkp tkr tkc rsF p2 _ h) (cwV 1 hts gX3_isRatioGreater_X3_knownBy rfl rfl rfl (by decide +kernel) ⟨Nat.le_of_ble_eq_true rfl, Nat.le_of_ble_eq_true rfl⟩) (prW.preV (ci := 3) (q0 := 0) hPc hDc hK hN rfl rfl) rfl rfl hl.1 rfl (lv_room (Nat.le_of_ble_eq_true rfl)) dX3_isRatioGreater_25 ⟨Nat.le_of_ble_eq_true rfl, Nat.le_of_ble_eq_true rfl⟩) hP hD hS hA [0, 1, 2] [] rfl rfl (by decide) (by decide) [0, 1, 2] (by decide) (fun _ => rfl) (fun r25 u25 H locs h hP hD hS => ?_)
  have hP : va_P (dC, dI) vwCl [(a_pl, .inr (3, [.int days, .ref a_tk, .ref a_rs])), (a_tk, tkE tkk tkd tkp tkr tkc), (a_rs, .inl (kA, 41, .inl rsF))] H := hP
  have hD : va_D A [(a_pl, .inr (3, [.int days, .ref a_tk, .ref a_rs])), (a_tk, tkE tkk tkd tkp tkr tkc), (a_rs, .inl (kA, 41, .inl rsF))] := hD
  refine lv_i2l hx hb dX3_isRatioGreater_28 rfl ?_
  refine lv_lmul hx hb dX3_isRatioGreater_29 ?_
  refine W.lcmp hx hb dX3_isRatioGreater_30 ?_
  refine lv_if_le (tgt := 38) hx hb dX3_isRatioGreater_31 (by decide) (fun c31 => ?_) (fun c31 => ?_)
  · replace h := h.1 c31
    refine lv_iconst (v := (0 : Int32)) hx hb dX3_isRatioGreater_38 (by decide +kernel) ?_
    rw [hQ]
    exact rt_z () hx hb hr hlocks (by decide) h hP hD hS dX3_isRatioGreater_39
  · replace h := h.2 c31
    refine lv_iconst (v := (1 : Int32)) hx hb dX3_isRatioGreater_34 (by decide +kernel) ?_
    refine lv_goto (tgt := 39) hx hb dX3_isRatioGreater_35 (by decide) ?_
    rw [hQ]
    exact rt_z () hx hb hr hlocks (by decide) h hP hD hS dX3_isRatioGreater_39

/-- RentOrBuy$Plans.worstEnd -/
def rmX3_worstEnd : Room := { frames := 3, cells := 0, slots := 0, locals := 58 }
set_option maxHeartbeats 4000000 in
set_option maxRecDepth 100000 in
theorem c_X3_worstEnd (l : Launch) (dC : Nat → ClassId) (dI : Nat → Nat → Nat) (kA : ClassId) (a_pl a_tk a_rs : Nat) (sz : Nat) (days : Int32) (tkk : Nat) (tkd : Int32) (tkp : Int32) (tkr : Int32) (tkc : Int32) (rsF : Nat → Int32) (p1 : Int32) (K : Int32 → Prop) (hg : g_X3_worstEnd days tkk tkd tkp tkr tkc rsF p1 K) : Met l yX3_worstEnd wsX3_worstEnd rmX3_worstEnd (va_Pc [.ref a_pl, .int p1] (prW (dC, dI) kA sz [(a_pl, .inr (3, [.int days, .ref a_tk, .ref a_rs])), (a_tk, tkE tkk tkd tkp tkr tkc), (a_rs, .inl (kA, 41, .inl rsF))])) (va_Qi (fun (r : Int32) (u : Unit) => K r) (poW (dC, dI) (va_A [(a_pl, .inr (3, [.int days, .ref a_tk, .ref a_rs])), (a_tk, tkE tkk tkd tkp tkr tkc), (a_rs, .inl (kA, 41, .inl rsF))] sz) (fun (u : Unit) => [(a_pl, .inr (3, [.int days, .ref a_tk, .ref a_rs])), (a_tk, tkE tkk tkd tkp tkr tkc), (a_rs, .inl (kA, 41, .inl rsF))])) (va_A [(a_pl, .inr (3, [.int days, .ref a_tk, .ref a_rs])), (a_tk, tkE tkk tkd tkp tkr tkc), (a_rs, .inl (kA, 41, .inl rsF))] sz)) 0 0 (va_A [(a_pl, .inr (3, [.int days, .ref a_tk, .ref a_rs])), (a_tk, tkE tkk tkd tkp tkr tkc), (a_rs, .inl (kA, 41, .inl rsF))] sz) := by
  refine Met.ofW (cc := cX3_worstEnd) (maxL := 4) (ret := (some .int)) (by decide) rfl ?_
  intro p e s m args below meth c s₁ B hml hv
  obtain ⟨hargs, hsz, hP, hK, hD0, hN⟩ := hv
  have hx := B.exec
  have hb := B.bytes
  have hr := B.returns
  have hts := atoms_spec (ws := wsX3_worstEnd) B.pre
  have hown : s.vm.findClass RX3 = some m.cls := findClass_of_methodNamed B.named
  have hlocks := B.notSynchronized
  subst hsz
  have hD := hD0.self (sz := s.heap.size)
  generalize hAe : va_A [(a_pl, .inr (3, [.int days, .ref a_tk, .ref a_rs])), (a_tk, tkE tkk tkd tkp tkr tkc), (a_rs, .inl (kA, 41, .inl rsF))] s.heap.size = A at hD ⊢
  have hA : ∀ q : Nat, s.heap.size ≤ q → A q := fun q h => by rw [← hAe]; exact Or.inr h
  have hS : va_S A s.heap s.heap [] := va_S.rf
  obtain ⟨Q, hQ⟩ : ∃ Q : State → Prop, Q = MQ below (va_Qi (fun (r : Int32) (u : Unit) => K r) (poW (dC, dI) A (fun (u : Unit) => [(a_pl, .inr (3, [.int days, .ref a_tk, .ref a_rs])), (a_tk, tkE tkk tkd tkp tkr tkc), (a_rs, .inl (kA, 41, .inl rsF))])) A) args s 0 0 A := ⟨_, rfl⟩
  rw [← hQ]
  have hP : va_P (dC, dI) vwCl [(a_pl, .inr (3, [.int days, .ref a_tk, .ref a_rs])), (a_tk, tkE tkk tkd tkp tkr tkc), (a_rs, .inl (kA, 41, .inl rsF))] s.heap := hP
  refine en_ok hargs (Nat.le_of_ble_eq_true rfl) (fun ls hl => ?_)
  have hl : lv_has ls 4 [(0, .ref a_pl), (1, .int p1)] := hl
  have h := hg
  unfold g_X3_worstEnd at h
  refine lv_iconst (v := (1 : Int32)) hx hb dX3_worstEnd_0 (by decide +kernel) ?_
  refine lv_istore_n (lv' := [(2, .int (1 : Int32)), (0, .ref a_pl), (1, .int p1)]) hx hb dX3_worstEnd_1 rfl hl (by decide) rfl (fun ls hl => ?_)
  refine lv_iconst (v := (2 : Int32)) hx hb dX3_worstEnd_2 (by decide +kernel) ?_
  refine lv_istore_n (lv' := [(3, .int (2 : Int32)), (2, .int (1 : Int32)), (0, .ref a_pl), (1, .int p1)]) hx hb dX3_worstEnd_3 rfl hl (by decide) rfl (fun ls hl => ?_)
  obtain ⟨J4, ⟨n4, h⟩, hz4, hs4⟩ := h
  have hL4 : ∀ (n4 : Nat) (v2_4 : Int32) (v3_4 : Int32), J4 n4 v2_4 v3_4 → ∀ (H : Heap) (locs : List Loc) (ls : Array Slot), va_P (dC, dI) vwCl [(a_pl, .inr (3, [.int days, .ref a_tk, .ref a_rs])), (a_tk, tkE tkk tkd tkp tkr tkc), (a_rs, .inl (kA, 41, .inl rsF))] H → va_D A [(a_pl, .inr (3, [.int days, .ref a_tk, .ref a_rs])), (a_tk, tkE tkk tkd tkp tkr tkc), (a_rs, .inl (kA, 41, .inl rsF))] → va_S A s.heap H locs → lv_has ls 4 [(0, .ref a_pl), (1, .int p1), (2, .int v2_4), (3, .int v3_4)] → W p l e (headSpec wsX3_worstEnd rmX3_worstEnd).room s m args below meth c H locs 0 0 Q (F0 m 4 ls []) := by
    intro n4
    induction n4 with
    | zero => intro v2_4 v3_4 h; exact absurd h (hz4 v2_4 v3_4)
    | succ n4 ih4 =>
      intro v2_4 v3_4 h H locs ls hP hD hS hl
      replace h := hs4 n4 v2_4 v3_4 h
      refine lv_iload_n hx hb dX3_worstEnd_4 rfl (lv_at hl 3 rfl) ?_
      refine lv_aload_n hx hb dX3_worstEnd_5 rfl (lv_at hl 0 rfl) ?_
      refine va_get (D := (dC, dI)) (ci := 3) (v := .int days) (C := RX3) (T := TX3) (N := 3) hx hb hts (fun _ h => List.mem_cons_of_mem _ (List.mem_append_left _ (List.mem_append_left _ (List.mem_append_left _ (List.mem_append_right _ h))))) hown hK hP 0 rfl rfl 0 (by decide) (hts (.fieldLink RX3 9 "RentOrBuy$Plans" "days" "I") (List.mem_cons_of_mem _ (List.mem_append_left _ (List.mem_append_left _ (List.mem_append_left _ (List.mem_append_left _ (List.mem_of_getElem? (i := 0) rfl))))))) (fun _ h9 => h9) rfl dX3_worstEnd_6 ?_
      refine lv_icmp_gt (tgt := 31) hx hb dX3_worstEnd_9 (by decide) (fun c9 => ?_) (fun c9 => ?_)
      · replace h := h.1 c9
        refine lv_iload_n hx hb dX3_worstEnd_31 rfl (lv_at hl 2 rfl) ?_
        rw [hQ]
        exact rt_i () hx hb hr hlocks h hP hD hS dX3_worstEnd_32
      · replace h := h.2 c9
        refine lv_aload_n hx hb dX3_worstEnd_12 rfl (lv_at hl 0 rfl) ?_
        refine lv_iload_n hx hb dX3_worstEnd_13 rfl (lv_at hl 1 rfl) ?_
        refine lv_iload_n hx hb dX3_worstEnd_14 rfl (lv_at hl 3 rfl) ?_
        refine lv_iload_n hx hb dX3_worstEnd_15 rfl (lv_at hl 1 rfl) ?_
        refine lv_iload_n hx hb dX3_worstEnd_16 rfl (lv_at hl 2 rfl) ?_
        have hPc := hP.sub (ws' := [(a_pl, .inr (3, [.int days, .ref a_tk, .ref a_rs])), (a_tk, tkE tkk tkd tkp tkr tkc), (a_rs, .inl (kA, 41, .inl rsF))]) [0, 1, 2] rfl
        have hDc := hD.sub (ws' := [(a_pl, .inr (3, [.int days, .ref a_tk, .ref a_rs])), (a_tk, tkE tkk tkd tkp tkr tkc), (a_rs, .inl (kA, 41, .inl rsF))]) [0, 1, 2] (by decide) rfl
        refine fr_i (wr := []) (WN := fun (u17 : Unit) => [(a_pl, .inr (3, [.int days, .ref a_tk, .ref a_rs])), (a_tk, tkE tkk tkd tkp tkr tkc), (a_rs, .inl (kA, 41, .inl rsF))]) (va_runV (As := [.int p1, .int v3_4, .int p1, .int v2_4]) (rest := []) ⟨hx, hb, hml, hown, hts⟩ (c_X3_isRatioGreater l dC dI kA a_pl a_tk a_rs H.size days tkk tkd tkp tkr tkc rsF p1 v3_4 p1 v2_4 _ h) (cwV 4 hts gX3_worstEnd_X3_isRatioGreater rfl rfl rfl (by decide +kernel) ⟨Nat.le_of_ble_eq_true rfl, Nat.le_of_ble_eq_true rfl⟩) (prW.preV (ci := 3) (q0 := 0) hPc hDc hK hN rfl rfl) rfl rfl hl.1 rfl (lv_room (Nat.le_of_ble_eq_true rfl)) dX3_worstEnd_17 ⟨Nat.le_of_ble_eq_true rfl, Nat.le_of_ble_eq_true rfl⟩) hP hD hS hA [0, 1, 2] [] rfl rfl (by decide) (by decide) [0, 1, 2] (by decide) (fun _ => rfl) (fun r17 u17 H locs h hP hD hS => ?_)
        have hP : va_P (dC, dI) vwCl [(a_pl, .inr (3, [.int days, .ref a_tk, .ref a_rs])), (a_tk, tkE tkk tkd tkp tkr tkc), (a_rs, .inl (kA, 41, .inl rsF))] H := hP
        have hD : va_D A [(a_pl, .inr (3, [.int days, .ref a_tk, .ref a_rs])), (a_tk, tkE tkk tkd tkp tkr tkc), (a_rs, .inl (kA, 41, .inl rsF))] := hD
        obtain ⟨J25, hR25, h⟩ := h
        have hJ25 : ∀ (v2_25 : Int32), J25 v2_25 → ∀ (H : Heap) (locs : List Loc) (ls : Array Slot), va_P (dC, dI) vwCl [(a_pl, .inr (3, [.int days, .ref a_tk, .ref a_rs])), (a_tk, tkE tkk tkd tkp tkr tkc), (a_rs, .inl (kA, 41, .inl rsF))] H → va_D A [(a_pl, .inr (3, [.int days, .ref a_tk, .ref a_rs])), (a_tk, tkE tkk tkd tkp tkr tkc), (a_rs, .inl (kA, 41, .inl rsF))] → va_S A s.heap H locs → lv_has ls 4 [(0, .ref a_pl), (1, .int p1), (2, .int v2_25), (3, .int v3_4)] → W p l e (headSpec wsX3_worstEnd rmX3_worstEnd).room s m args below meth c H locs 0 0 Q (F0 m 25 ls []) := by
          intro v2_25 h H locs ls hP hD hS hl
          replace h := hR25 v2_25 h
          refine lv_iinc (v := (v3_4 + (1 : Int32))) (lv' := [(3, .int (v3_4 + (1 : Int32))), (0, .ref a_pl), (1, .int p1), (2, .int v2_25)]) hx hb dX3_worstEnd_25 hl (k := 3) rfl (by rfl) (by decide) rfl (fun ls hl => ?_)
          refine lv_goto (tgt := 4) hx hb dX3_worstEnd_28 (by decide) ?_
          exact ih4 v2_25 (v3_4 + (1 : Int32)) h _ _ _ hP hD hS (lv_sub hl [1, 2, 3, 0] rfl)
        refine lv_if_eq (tgt := 25) hx hb dX3_worstEnd_20 (by decide) (fun c20 => ?_) (fun c20 => ?_)
        · replace h := h.1 c20
          exact hJ25 v2_4 h _ _ _ hP hD hS (lv_sub hl [0, 1, 2, 3] rfl)
        · replace h := h.2 c20
          refine lv_iload_n hx hb dX3_worstEnd_23 rfl (lv_at hl 3 rfl) ?_
          refine lv_istore_n (lv' := [(2, .int v3_4), (0, .ref a_pl), (1, .int p1), (3, .int v3_4)]) hx hb dX3_worstEnd_24 rfl hl (by decide) rfl (fun ls hl => ?_)
          exact hJ25 v3_4 h _ _ _ hP hD hS (lv_sub hl [1, 2, 0, 3] rfl)
  exact hL4 n4 (1 : Int32) (2 : Int32) h _ _ _ hP hD hS (lv_sub hl [2, 3, 1, 0] rfl)

/-- RentOrBuy$Plans.surePlan -/
def rmX3_surePlan : Room := { frames := 4, cells := 0, slots := 0, locals := 81 }
set_option maxHeartbeats 4000000 in
set_option maxRecDepth 100000 in
theorem c_X3_surePlan (l : Launch) (dC : Nat → ClassId) (dI : Nat → Nat → Nat) (kA : ClassId) (a_pl a_tk a_rs : Nat) (sz : Nat) (days : Int32) (tkk : Nat) (tkd : Int32) (tkp : Int32) (tkr : Int32) (tkc : Int32) (rsF : Nat → Int32) (K : Int32 → Prop) (hg : g_X3_surePlan days tkk tkd tkp tkr tkc rsF K) : Met l yX3_surePlan wsX3_surePlan rmX3_surePlan (va_Pc [.ref a_pl] (prW (dC, dI) kA sz [(a_pl, .inr (3, [.int days, .ref a_tk, .ref a_rs])), (a_tk, tkE tkk tkd tkp tkr tkc), (a_rs, .inl (kA, 41, .inl rsF))])) (va_Qi (fun (r : Int32) (u : Unit) => K r) (poW (dC, dI) (va_A [(a_pl, .inr (3, [.int days, .ref a_tk, .ref a_rs])), (a_tk, tkE tkk tkd tkp tkr tkc), (a_rs, .inl (kA, 41, .inl rsF))] sz) (fun (u : Unit) => [(a_pl, .inr (3, [.int days, .ref a_tk, .ref a_rs])), (a_tk, tkE tkk tkd tkp tkr tkc), (a_rs, .inl (kA, 41, .inl rsF))])) (va_A [(a_pl, .inr (3, [.int days, .ref a_tk, .ref a_rs])), (a_tk, tkE tkk tkd tkp tkr tkc), (a_rs, .inl (kA, 41, .inl rsF))] sz)) 0 0 (va_A [(a_pl, .inr (3, [.int days, .ref a_tk, .ref a_rs])), (a_tk, tkE tkk tkd tkp tkr tkc), (a_rs, .inl (kA, 41, .inl rsF))] sz) := by
  refine Met.ofW (cc := cX3_surePlan) (maxL := 5) (ret := (some .int)) (by decide) rfl ?_
  intro p e s m args below meth c s₁ B hml hv
  obtain ⟨hargs, hsz, hP, hK, hD0, hN⟩ := hv
  have hx := B.exec
  have hb := B.bytes
  have hr := B.returns
  have hts := atoms_spec (ws := wsX3_surePlan) B.pre
  have hown : s.vm.findClass RX3 = some m.cls := findClass_of_methodNamed B.named
  have hlocks := B.notSynchronized
  subst hsz
  have hD := hD0.self (sz := s.heap.size)
  generalize hAe : va_A [(a_pl, .inr (3, [.int days, .ref a_tk, .ref a_rs])), (a_tk, tkE tkk tkd tkp tkr tkc), (a_rs, .inl (kA, 41, .inl rsF))] s.heap.size = A at hD ⊢
  have hA : ∀ q : Nat, s.heap.size ≤ q → A q := fun q h => by rw [← hAe]; exact Or.inr h
  have hS : va_S A s.heap s.heap [] := va_S.rf
  obtain ⟨Q, hQ⟩ : ∃ Q : State → Prop, Q = MQ below (va_Qi (fun (r : Int32) (u : Unit) => K r) (poW (dC, dI) A (fun (u : Unit) => [(a_pl, .inr (3, [.int days, .ref a_tk, .ref a_rs])), (a_tk, tkE tkk tkd tkp tkr tkc), (a_rs, .inl (kA, 41, .inl rsF))])) A) args s 0 0 A := ⟨_, rfl⟩
  rw [← hQ]
  have hP : va_P (dC, dI) vwCl [(a_pl, .inr (3, [.int days, .ref a_tk, .ref a_rs])), (a_tk, tkE tkk tkd tkp tkr tkc), (a_rs, .inl (kA, 41, .inl rsF))] s.heap := hP
  refine en_ok hargs (Nat.le_of_ble_eq_true rfl) (fun ls hl => ?_)
  have hl : lv_has ls 5 [(0, .ref a_pl)] := hl
  have h := hg
  unfold g_X3_surePlan at h
  refine lv_iconst (v := (1 : Int32)) hx hb dX3_surePlan_0 (by decide +kernel) ?_
  refine lv_istore_n (lv' := [(1, .int (1 : Int32)), (0, .ref a_pl)]) hx hb dX3_surePlan_1 rfl hl (by decide) rfl (fun ls hl => ?_)
  refine lv_aload_n hx hb dX3_surePlan_2 rfl (lv_at hl 1 rfl) ?_
  refine lv_iconst (v := (1 : Int32)) hx hb dX3_surePlan_3 (by decide +kernel) ?_
  have hPc := hP.sub (ws' := [(a_pl, .inr (3, [.int days, .ref a_tk, .ref a_rs])), (a_tk, tkE tkk tkd tkp tkr tkc), (a_rs, .inl (kA, 41, .inl rsF))]) [0, 1, 2] rfl
  have hDc := hD.sub (ws' := [(a_pl, .inr (3, [.int days, .ref a_tk, .ref a_rs])), (a_tk, tkE tkk tkd tkp tkr tkc), (a_rs, .inl (kA, 41, .inl rsF))]) [0, 1, 2] (by decide) rfl
  refine fr_i (wr := []) (WN := fun (u4 : Unit) => [(a_pl, .inr (3, [.int days, .ref a_tk, .ref a_rs])), (a_tk, tkE tkk tkd tkp tkr tkc), (a_rs, .inl (kA, 41, .inl rsF))]) (va_runV (As := [.int (1 : Int32)]) (rest := []) ⟨hx, hb, hml, hown, hts⟩ (c_X3_worstEnd l dC dI kA a_pl a_tk a_rs s.heap.size days tkk tkd tkp tkr tkc rsF (1 : Int32) _ h) (cwV 1 hts gX3_surePlan_X3_worstEnd rfl rfl rfl (by decide +kernel) ⟨Nat.le_of_ble_eq_true rfl, Nat.le_of_ble_eq_true rfl⟩) (prW.preV (ci := 3) (q0 := 0) hPc hDc hK hN rfl rfl) rfl rfl hl.1 rfl (lv_room (Nat.le_of_ble_eq_true rfl)) dX3_surePlan_4 ⟨Nat.le_of_ble_eq_true rfl, Nat.le_of_ble_eq_true rfl⟩) hP hD hS hA [0, 1, 2] [] rfl rfl (by decide) (by decide) [0, 1, 2] (by decide) (fun _ => rfl) (fun r4 u4 H locs h hP hD hS => ?_)
  have hP : va_P (dC, dI) vwCl [(a_pl, .inr (3, [.int days, .ref a_tk, .ref a_rs])), (a_tk, tkE tkk tkd tkp tkr tkc), (a_rs, .inl (kA, 41, .inl rsF))] H := hP
  have hD : va_D A [(a_pl, .inr (3, [.int days, .ref a_tk, .ref a_rs])), (a_tk, tkE tkk tkd tkp tkr tkc), (a_rs, .inl (kA, 41, .inl rsF))] := hD
  refine lv_istore_n (lv' := [(2, .int r4), (1, .int (1 : Int32)), (0, .ref a_pl)]) hx hb dX3_surePlan_7 rfl hl (by decide) rfl (fun ls hl => ?_)
  refine lv_iconst (v := (2 : Int32)) hx hb dX3_surePlan_8 (by decide +kernel) ?_
  refine lv_istore_n (lv' := [(3, .int (2 : Int32)), (2, .int r4), (1, .int (1 : Int32)), (0, .ref a_pl)]) hx hb dX3_surePlan_9 rfl hl (by decide) rfl (fun ls hl => ?_)
  obtain ⟨J10, ⟨n10, h⟩, hz10, hs10⟩ := h
  have hL10 : ∀ (n10 : Nat) (v1_10 : Int32) (v2_10 : Int32) (v3_10 : Int32), J10 n10 v1_10 v2_10 v3_10 → ∀ (H : Heap) (locs : List Loc) (ls : Array Slot), va_P (dC, dI) vwCl [(a_pl, .inr (3, [.int days, .ref a_tk, .ref a_rs])), (a_tk, tkE tkk tkd tkp tkr tkc), (a_rs, .inl (kA, 41, .inl rsF))] H → va_D A [(a_pl, .inr (3, [.int days, .ref a_tk, .ref a_rs])), (a_tk, tkE tkk tkd tkp tkr tkc), (a_rs, .inl (kA, 41, .inl rsF))] → va_S A s.heap H locs → lv_has ls 5 [(0, .ref a_pl), (1, .int v1_10), (2, .int v2_10), (3, .int v3_10)] → W p l e (headSpec wsX3_surePlan rmX3_surePlan).room s m args below meth c H locs 0 0 Q (F0 m 10 ls []) := by
    intro n10
    induction n10 with
    | zero => intro v1_10 v2_10 v3_10 h; exact absurd h (hz10 v1_10 v2_10 v3_10)
    | succ n10 ih10 =>
      intro v1_10 v2_10 v3_10 h H locs ls hP hD hS hl
      replace h := hs10 n10 v1_10 v2_10 v3_10 h
      refine lv_iload_n hx hb dX3_surePlan_10 rfl (lv_at hl 3 rfl) ?_
      refine lv_aload_n hx hb dX3_surePlan_11 rfl (lv_at hl 0 rfl) ?_
      refine va_get (D := (dC, dI)) (ci := 3) (v := .int days) (C := RX3) (T := TX3) (N := 3) hx hb hts (fun _ h => List.mem_cons_of_mem _ (List.mem_append_left _ (List.mem_append_left _ (List.mem_append_left _ (List.mem_append_right _ h))))) hown hK hP 0 rfl rfl 0 (by decide) (hts (.fieldLink RX3 9 "RentOrBuy$Plans" "days" "I") (List.mem_cons_of_mem _ (List.mem_append_left _ (List.mem_append_left _ (List.mem_append_left _ (List.mem_append_left _ (List.mem_of_getElem? (i := 0) rfl))))))) (fun _ h9 => h9) rfl dX3_surePlan_12 ?_
      refine lv_iconst (v := (1 : Int32)) hx hb dX3_surePlan_15 (by decide +kernel) ?_
      refine lv_iadd hx hb dX3_surePlan_16 ?_
      refine lv_icmp_gt (tgt := 50) hx hb dX3_surePlan_17 (by decide) (fun c17 => ?_) (fun c17 => ?_)
      · replace h := h.1 c17
        refine lv_iload_n hx hb dX3_surePlan_50 rfl (lv_at hl 1 rfl) ?_
        rw [hQ]
        exact rt_i () hx hb hr hlocks h hP hD hS dX3_surePlan_51
      · replace h := h.2 c17
        refine lv_aload_n hx hb dX3_surePlan_20 rfl (lv_at hl 0 rfl) ?_
        refine lv_iload_n hx hb dX3_surePlan_21 rfl (lv_at hl 3 rfl) ?_
        have hPc := hP.sub (ws' := [(a_pl, .inr (3, [.int days, .ref a_tk, .ref a_rs])), (a_tk, tkE tkk tkd tkp tkr tkc), (a_rs, .inl (kA, 41, .inl rsF))]) [0, 1, 2] rfl
        have hDc := hD.sub (ws' := [(a_pl, .inr (3, [.int days, .ref a_tk, .ref a_rs])), (a_tk, tkE tkk tkd tkp tkr tkc), (a_rs, .inl (kA, 41, .inl rsF))]) [0, 1, 2] (by decide) rfl
        refine fr_i (wr := []) (WN := fun (u22 : Unit) => [(a_pl, .inr (3, [.int days, .ref a_tk, .ref a_rs])), (a_tk, tkE tkk tkd tkp tkr tkc), (a_rs, .inl (kA, 41, .inl rsF))]) (va_runV (As := [.int v3_10]) (rest := []) ⟨hx, hb, hml, hown, hts⟩ (c_X3_worstEnd l dC dI kA a_pl a_tk a_rs H.size days tkk tkd tkp tkr tkc rsF v3_10 _ h) (cwV 1 hts gX3_surePlan_X3_worstEnd rfl rfl rfl (by decide +kernel) ⟨Nat.le_of_ble_eq_true rfl, Nat.le_of_ble_eq_true rfl⟩) (prW.preV (ci := 3) (q0 := 0) hPc hDc hK hN rfl rfl) rfl rfl hl.1 rfl (lv_room (Nat.le_of_ble_eq_true rfl)) dX3_surePlan_22 ⟨Nat.le_of_ble_eq_true rfl, Nat.le_of_ble_eq_true rfl⟩) hP hD hS hA [0, 1, 2] [] rfl rfl (by decide) (by decide) [0, 1, 2] (by decide) (fun _ => rfl) (fun r22 u22 H locs h hP hD hS => ?_)
        have hP : va_P (dC, dI) vwCl [(a_pl, .inr (3, [.int days, .ref a_tk, .ref a_rs])), (a_tk, tkE tkk tkd tkp tkr tkc), (a_rs, .inl (kA, 41, .inl rsF))] H := hP
        have hD : va_D A [(a_pl, .inr (3, [.int days, .ref a_tk, .ref a_rs])), (a_tk, tkE tkk tkd tkp tkr tkc), (a_rs, .inl (kA, 41, .inl rsF))] := hD
        refine lv_istore (lv' := [(4, .int r22), (0, .ref a_pl), (1, .int v1_10), (2, .int v2_10), (3, .int v3_10)]) hx hb dX3_surePlan_25 hl (by decide) rfl (fun ls hl => ?_)
        refine lv_aload_n hx hb dX3_surePlan_27 rfl (lv_at hl 1 rfl) ?_
        refine lv_iload_n hx hb dX3_surePlan_28 rfl (lv_at hl 2 rfl) ?_
        refine lv_iload_n hx hb dX3_surePlan_29 rfl (lv_at hl 3 rfl) ?_
        refine lv_iload_n hx hb dX3_surePlan_30 rfl (lv_at hl 4 rfl) ?_
        refine lv_iload hx hb dX3_surePlan_31 (lv_at hl 0 rfl) ?_
        have hPc := hP.sub (ws' := [(a_pl, .inr (3, [.int days, .ref a_tk, .ref a_rs])), (a_tk, tkE tkk tkd tkp tkr tkc), (a_rs, .inl (kA, 41, .inl rsF))]) [0, 1, 2] rfl
        have hDc := hD.sub (ws' := [(a_pl, .inr (3, [.int days, .ref a_tk, .ref a_rs])), (a_tk, tkE tkk tkd tkp tkr tkc), (a_rs, .inl (kA, 41, .inl rsF))]) [0, 1, 2] (by decide) rfl
        refine fr_i (wr := []) (WN := fun (u33 : Unit) => [(a_pl, .inr (3, [.int days, .ref a_tk, .ref a_rs])), (a_tk, tkE tkk tkd tkp tkr tkc), (a_rs, .inl (kA, 41, .inl rsF))]) (va_runV (As := [.int v1_10, .int v2_10, .int v3_10, .int r22]) (rest := []) ⟨hx, hb, hml, hown, hts⟩ (c_X3_isRatioGreater l dC dI kA a_pl a_tk a_rs H.size days tkk tkd tkp tkr tkc rsF v1_10 v2_10 v3_10 r22 _ h) (cwV 4 hts gX3_surePlan_X3_isRatioGreater rfl rfl rfl (by decide +kernel) ⟨Nat.le_of_ble_eq_true rfl, Nat.le_of_ble_eq_true rfl⟩) (prW.preV (ci := 3) (q0 := 0) hPc hDc hK hN rfl rfl) rfl rfl hl.1 rfl (lv_room (Nat.le_of_ble_eq_true rfl)) dX3_surePlan_33 ⟨Nat.le_of_ble_eq_true rfl, Nat.le_of_ble_eq_true rfl⟩) hP hD hS hA [0, 1, 2] [] rfl rfl (by decide) (by decide) [0, 1, 2] (by decide) (fun _ => rfl) (fun r33 u33 H locs h hP hD hS => ?_)
        have hP : va_P (dC, dI) vwCl [(a_pl, .inr (3, [.int days, .ref a_tk, .ref a_rs])), (a_tk, tkE tkk tkd tkp tkr tkc), (a_rs, .inl (kA, 41, .inl rsF))] H := hP
        have hD : va_D A [(a_pl, .inr (3, [.int days, .ref a_tk, .ref a_rs])), (a_tk, tkE tkk tkd tkp tkr tkc), (a_rs, .inl (kA, 41, .inl rsF))] := hD
        obtain ⟨J44, hR44, h⟩ := h
        have hJ44 : ∀ (v1_44 : Int32) (v2_44 : Int32), J44 v1_44 v2_44 → ∀ (H : Heap) (locs : List Loc) (ls : Array Slot), va_P (dC, dI) vwCl [(a_pl, .inr (3, [.int days, .ref a_tk, .ref a_rs])), (a_tk, tkE tkk tkd tkp tkr tkc), (a_rs, .inl (kA, 41, .inl rsF))] H → va_D A [(a_pl, .inr (3, [.int days, .ref a_tk, .ref a_rs])), (a_tk, tkE tkk tkd tkp tkr tkc), (a_rs, .inl (kA, 41, .inl rsF))] → va_S A s.heap H locs → lv_has ls 5 [(0, .ref a_pl), (1, .int v1_44), (2, .int v2_44), (3, .int v3_10)] → W p l e (headSpec wsX3_surePlan rmX3_surePlan).room s m args below meth c H locs 0 0 Q (F0 m 44 ls []) := by
          intro v1_44 v2_44 h H locs ls hP hD hS hl
          replace h := hR44 v1_44 v2_44 h
          refine lv_iinc (v := (v3_10 + (1 : Int32))) (lv' := [(3, .int (v3_10 + (1 : Int32))), (0, .ref a_pl), (1, .int v1_44), (2, .int v2_44)]) hx hb dX3_surePlan_44 hl (k := 3) rfl (by rfl) (by decide) rfl (fun ls hl => ?_)
          refine lv_goto (tgt := 10) hx hb dX3_surePlan_47 (by decide) ?_
          exact ih10 v1_44 v2_44 (v3_10 + (1 : Int32)) h _ _ _ hP hD hS (lv_sub hl [1, 2, 3, 0] rfl)
        refine lv_if_eq (tgt := 44) hx hb dX3_surePlan_36 (by decide) (fun c36 => ?_) (fun c36 => ?_)
        · replace h := h.1 c36
          exact hJ44 v1_10 v2_10 h _ _ _ hP hD hS (lv_sub hl [1, 2, 3, 4] rfl)
        · replace h := h.2 c36
          refine lv_iload_n hx hb dX3_surePlan_39 rfl (lv_at hl 4 rfl) ?_
          refine lv_istore_n (lv' := [(1, .int v3_10), (4, .int r22), (0, .ref a_pl), (2, .int v2_10), (3, .int v3_10)]) hx hb dX3_surePlan_40 rfl hl (by decide) rfl (fun ls hl => ?_)
          refine lv_iload hx hb dX3_surePlan_41 (lv_at hl 1 rfl) ?_
          refine lv_istore_n (lv' := [(2, .int r22), (1, .int v3_10), (4, .int r22), (0, .ref a_pl), (3, .int v3_10)]) hx hb dX3_surePlan_43 rfl hl (by decide) rfl (fun ls hl => ?_)
          exact hJ44 v3_10 r22 h _ _ _ hP hD hS (lv_sub hl [3, 1, 0, 4] rfl)
  exact hL10 n10 (1 : Int32) r4 (2 : Int32) h _ _ _ hP hD hS (lv_sub hl [3, 2, 1, 0] rfl)

