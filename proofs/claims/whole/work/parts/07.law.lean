def R_law : String := "RentOrBuyLaw"
def lw_P (b : Addr) (xs : List Int32) (args : Array Value) (s : State) : Prop := args = #[.ref b] ∧ s.IntsAt b xs ∧ xs.length ≤ 3072 ∧ (Jvm.Cond.and given_1 narrow_1).before args s = true
/-- what these rows need of the claim's room: its own numbers are measured anew at each turn, so no row here names them -/
theorem rm_cells : 100000 ≤ room_1.cells := Nat.le_of_ble_eq_true rfl
theorem rm_slots : 1000000 ≤ room_1.slots := Nat.le_of_ble_eq_true rfl
def lw_Q (_ : Array Value) (s : State) (o : Outcome) (t : State) : Prop := o = .returned (some (.int 1)) ∧ Framed s o t [] room_1.cells room_1.slots
def lw_Z (below : List Frame) (a : Array Value) (s : State) : State → Prop := fun t => ∃ o, t.status = .running ∧ Ended t below o ∧ lw_Q a s o t
/-- the law's own end, with 1 on the stack, nothing written that was there before, its room as the claim has it -/
theorem lw_ret {p : Program} {l : Launch} {e : Env} {s : State} {m : MethodId} {below : List Frame} {meth : Method} {c : Code} {b : Nat} (hx : p.tables.exec = Jvm.exec) (hb : c.code = code) (hr : meth.sig.returnType = ret) (hlocks : meth.locks = false) {pc : Nat} {H : Heap} {ls : Array Slot} (hdg : decode code pc = .ok (.ireturn, 1)) : W p l e room_1 s m #[Value.ref b] below meth c H [] room_1.cells room_1.slots (lw_Z below #[Value.ref b] s) (F0 m pc ls [.int 1]) := by
  intro T hT X
  obtain ⟨fs, hret, hrun, hended, hW, hframe⟩ := X.leave (v := some (.int 1)) (hlocks := hlocks) (fun h => by rw [hr] at h; cases h)
  have hmeth' : T.vm.method? m = some meth := X.method'
  refine ⟨T.setFrames fs, ?_, .returned (some (.int 1)), hrun, hended, rfl, ⟨_, rfl⟩, hW, hframe⟩
  jvm_step X.here [X.here.top, hx, hb, hdg, hmeth', hr, ret, narrow_b1]
  (try refine ⟨rfl, ?_⟩); (try refine ⟨rfl, ?_⟩)
  first | (intro acts; rw [hret _ acts rfl rfl rfl]) | rw [hret _ _ rfl rfl rfl]
  exact Steps.refl _
/-- what holds at the law's entry: the machine, the code, the tables' words (any of lw_tbl by 'hts w (by decide +kernel)'), the script of L ints xs at the cell b, what the Statement gives of the start (any of its parts by flat_of_before) -/
def lw_At (p : Program) (s : State) (m : MethodId) (meth : Method) (c : Code) (b L : Nat) (xs : Nat → Int32) : Prop :=
  p.tables.exec = Jvm.exec ∧ c.code = code ∧ meth.sig.returnType = ret ∧ c.maxLocals = 4 ∧ s.vm.findClass R_law = some m.cls ∧ (∀ w ∈ lw_tbl, w.before #[Value.ref b] s = true) ∧ va_X b L xs s s.heap ∧ b < s.heap.size ∧ meth.locks = false ∧ (Jvm.Cond.and given_1 narrow_1).before #[Value.ref b] s = true
theorem tkE_0 {k : Nat} {dr pr ri ca : Int32} (h : k = 0) : tkE k dr pr ri ca = .inr (1, [.int dr, .int pr]) := by simp [tkE, h]
theorem tkE_1 {k : Nat} {dr pr ri ca : Int32} (h : k = 1) : tkE k dr pr ri ca = .inr (4, [.int dr, .int pr, .int ri]) := by simp [tkE, h]
theorem tkE_2 {k : Nat} {dr pr ri ca : Int32} (h0 : ¬ k = 0) (h1 : ¬ k = 1) : tkE k dr pr ri ca = .inr (0, [.int ri, .int dr, .int pr, .int ca]) := by simp [tkE, h0, h1]
def rmX6_rent : Room := { frames := 3, cells := 0, slots := 0, locals := 63 }
set_option maxHeartbeats 4000000 in
set_option maxRecDepth 100000 in
theorem c_X6_rent (l : Launch) (dC : Nat → ClassId) (dI : Nat → Nat → Nat) (kA : ClassId) (a_x a_pl a_tk a_lo a_sh a_rs : Nat) (sz : Nat) (trc : Int64) (days : Int32) (tkk : Nat) (tkd : Int32) (tkp : Int32) (tkr : Int32) (tkc : Int32) (p1 : Int32) (K : Int32 → Int64 → Prop) (hg : g_X6_rent trc days tkk tkd tkp tkr tkc p1 K) : Met l yX6_rent wsX6_rent rmX6_rent (va_Pc [.ref a_x, .int p1] (prW (dC, dI) kA sz [(a_x, .inr (6, [.ref a_pl, .ref a_lo, .ref a_sh, .long trc])), (a_pl, .inr (3, [.int days, .ref a_tk, .ref a_rs])), (a_tk, tkE tkk tkd tkp tkr tkc)])) (va_Qi (fun (r : Int32) (u : Int64) => K r u) (poW (dC, dI) (va_A [(a_x, .inr (6, [.ref a_pl, .ref a_lo, .ref a_sh, .long trc])), (a_pl, .inr (3, [.int days, .ref a_tk, .ref a_rs])), (a_tk, tkE tkk tkd tkp tkr tkc)] sz) (fun (u : Int64) => [(a_x, .inr (6, [.ref a_pl, .ref a_lo, .ref a_sh, .long u])), (a_pl, .inr (3, [.int days, .ref a_tk, .ref a_rs])), (a_tk, tkE tkk tkd tkp tkr tkc)])) (va_A [(a_x, .inr (6, [.ref a_pl, .ref a_lo, .ref a_sh, .long trc])), (a_pl, .inr (3, [.int days, .ref a_tk, .ref a_rs])), (a_tk, tkE tkk tkd tkp tkr tkc)] sz)) 0 0 (va_A [(a_x, .inr (6, [.ref a_pl, .ref a_lo, .ref a_sh, .long trc])), (a_pl, .inr (3, [.int days, .ref a_tk, .ref a_rs])), (a_tk, tkE tkk tkd tkp tkr tkc)] sz) := by
  by_cases h0 : tkk = 0
  · rw [tkE_0 h0]
    exact c_X6_rent_k0 l dC dI kA a_x a_pl a_tk a_lo a_sh a_rs sz trc days tkd tkp p1 K (hg.1 h0)
  · by_cases h1 : tkk = 1
    · rw [tkE_1 h1]
      exact c_X6_rent_k1 l dC dI kA a_x a_pl a_tk a_lo a_sh a_rs sz trc days tkd tkp tkr p1 K (hg.2.1 h1)
    · rw [tkE_2 h0 h1]
      exact c_X6_rent_k2 l dC dI kA a_x a_pl a_tk a_lo a_sh a_rs sz trc days tkr tkd tkp tkc p1 K (hg.2.2 h0 h1)

def rmX6_count : Room := { frames := 1, cells := 0, slots := 0, locals := 20 }
set_option maxHeartbeats 4000000 in
set_option maxRecDepth 100000 in
theorem c_X6_count (l : Launch) (dC : Nat → ClassId) (dI : Nat → Nat → Nat) (kA : ClassId) (a_x a_pl a_tk a_sh a_lo a_rs a_ak a_os a_le : Nat) (sz : Nat) (trc : Int64) (days : Int32) (tkk : Nat) (tkd : Int32) (tkp : Int32) (tkr : Int32) (tkc : Int32) (thg : Int32) (req : Int32) (ocn : Int32) (p1 : Int32) (K : Int32 → Prop) (hg : g_X6_count trc days tkk tkd tkp tkr tkc thg req ocn p1 K) : Met l yX6_count wsX6_count rmX6_count (va_Pc [.ref a_x, .int p1] (prW (dC, dI) kA sz [(a_x, .inr (6, [.ref a_pl, .ref a_lo, .ref a_sh, .long trc])), (a_pl, .inr (3, [.int days, .ref a_tk, .ref a_rs])), (a_tk, tkE tkk tkd tkp tkr tkc), (a_sh, .inr (5, [.int thg, .int req, .ref a_ak, .int ocn, .ref a_os, .ref a_le]))])) (va_Qi (fun (r : Int32) (u : Unit) => K r) (poW (dC, dI) (va_A [(a_x, .inr (6, [.ref a_pl, .ref a_lo, .ref a_sh, .long trc])), (a_pl, .inr (3, [.int days, .ref a_tk, .ref a_rs])), (a_tk, tkE tkk tkd tkp tkr tkc), (a_sh, .inr (5, [.int thg, .int req, .ref a_ak, .int ocn, .ref a_os, .ref a_le]))] sz) (fun (u : Unit) => [(a_x, .inr (6, [.ref a_pl, .ref a_lo, .ref a_sh, .long trc])), (a_pl, .inr (3, [.int days, .ref a_tk, .ref a_rs])), (a_tk, tkE tkk tkd tkp tkr tkc), (a_sh, .inr (5, [.int thg, .int req, .ref a_ak, .int ocn, .ref a_os, .ref a_le]))])) (va_A [(a_x, .inr (6, [.ref a_pl, .ref a_lo, .ref a_sh, .long trc])), (a_pl, .inr (3, [.int days, .ref a_tk, .ref a_rs])), (a_tk, tkE tkk tkd tkp tkr tkc), (a_sh, .inr (5, [.int thg, .int req, .ref a_ak, .int ocn, .ref a_os, .ref a_le]))] sz)) 0 0 (va_A [(a_x, .inr (6, [.ref a_pl, .ref a_lo, .ref a_sh, .long trc])), (a_pl, .inr (3, [.int days, .ref a_tk, .ref a_rs])), (a_tk, tkE tkk tkd tkp tkr tkc), (a_sh, .inr (5, [.int thg, .int req, .ref a_ak, .int ocn, .ref a_os, .ref a_le]))] sz) := by
  by_cases h0 : tkk = 0
  · rw [tkE_0 h0]
    exact c_X6_count_k0 l dC dI kA a_x a_pl a_tk a_sh a_lo a_rs a_ak a_os a_le sz trc days tkd tkp thg req ocn p1 K (hg.1 h0)
  · by_cases h1 : tkk = 1
    · rw [tkE_1 h1]
      exact c_X6_count_k1 l dC dI kA a_x a_pl a_tk a_sh a_lo a_rs a_ak a_os a_le sz trc days tkd tkp tkr thg req ocn p1 K (hg.2.1 h1)
    · rw [tkE_2 h0 h1]
      exact c_X6_count_k2 l dC dI kA a_x a_pl a_tk a_sh a_lo a_rs a_ak a_os a_le sz trc days tkr tkd tkp tkc thg req ocn p1 K (hg.2.2 h0 h1)

theorem knA {args : Array Value} {s : State} (h : (Cond.arrayClass .int).before args s = true) : ∃ kA : ClassId, ArrOfT s kA .int ∧ va_RA s kA .int := by
  obtain ⟨c, k, comp, h1, h2, h3⟩ := Cond.arrayClass_spec h
  exact ⟨c, fun n z => ⟨fun k h => (by cases h), k, h2, comp, h3⟩, h1⟩
theorem ix19_out (x : Int32) (h0 : ¬ x = 0) (h1 : ¬ x = 1) (h2 : ¬ x = 2) (h3 : ¬ x = 3) (h4 : ¬ x = 4) (h5 : ¬ x = 5) (h6 : ¬ x = 6) (h7 : ¬ x = 7) (h8 : ¬ x = 8) (h9 : ¬ x = 9) (h10 : ¬ x = 10) (h11 : ¬ x = 11) (h12 : ¬ x = 12) (h13 : ¬ x = 13) (h14 : ¬ x = 14) (h15 : ¬ x = 15) (h16 : ¬ x = 16) (h17 : ¬ x = 17) (h18 : ¬ x = 18) : x.toInt < 0 ∨ 18 < x.toInt := by
  by_cases h : x.toInt < 0
  · exact Or.inl h
  · by_cases h' : 18 < x.toInt
    · exact Or.inr h'
    · exfalso
      have e : ∀ y : Int32, x.toInt = y.toInt → x = y := fun y hy => Int32.toInt_inj.mp hy
      have : x.toInt = 0 ∨ x.toInt = 1 ∨ x.toInt = 2 ∨ x.toInt = 3 ∨ x.toInt = 4 ∨ x.toInt = 5 ∨ x.toInt = 6 ∨ x.toInt = 7 ∨ x.toInt = 8 ∨ x.toInt = 9 ∨ x.toInt = 10 ∨ x.toInt = 11 ∨ x.toInt = 12 ∨ x.toInt = 13 ∨ x.toInt = 14 ∨ x.toInt = 15 ∨ x.toInt = 16 ∨ x.toInt = 17 ∨ x.toInt = 18 := by omega
      rcases this with q | q | q | q | q | q | q | q | q | q | q | q | q | q | q | q | q | q | q
      · exact h0 (e 0 (by rw [q]; rfl))
      · exact h1 (e 1 (by rw [q]; rfl))
      · exact h2 (e 2 (by rw [q]; rfl))
      · exact h3 (e 3 (by rw [q]; rfl))
      · exact h4 (e 4 (by rw [q]; rfl))
      · exact h5 (e 5 (by rw [q]; rfl))
      · exact h6 (e 6 (by rw [q]; rfl))
      · exact h7 (e 7 (by rw [q]; rfl))
      · exact h8 (e 8 (by rw [q]; rfl))
      · exact h9 (e 9 (by rw [q]; rfl))
      · exact h10 (e 10 (by rw [q]; rfl))
      · exact h11 (e 11 (by rw [q]; rfl))
      · exact h12 (e 12 (by rw [q]; rfl))
      · exact h13 (e 13 (by rw [q]; rfl))
      · exact h14 (e 14 (by rw [q]; rfl))
      · exact h15 (e 15 (by rw [q]; rfl))
      · exact h16 (e 16 (by rw [q]; rfl))
      · exact h17 (e 17 (by rw [q]; rfl))
      · exact h18 (e 18 (by rw [q]; rfl))
theorem nwF_in : ∀ q ∈ nwF, nwC q ∈ lw_tbl := List.forall_mem_cons.mpr ⟨List.mem_of_getElem? (i := 61) (by decide +kernel), List.forall_mem_cons.mpr ⟨List.mem_of_getElem? (i := 68) (by decide +kernel), List.forall_mem_cons.mpr ⟨List.mem_of_getElem? (i := 69) (by decide +kernel), List.forall_mem_cons.mpr ⟨List.mem_of_getElem? (i := 71) (by decide +kernel), List.forall_mem_cons.mpr ⟨List.mem_of_getElem? (i := 88) (by decide +kernel), List.forall_mem_cons.mpr ⟨List.mem_of_getElem? (i := 90) (by decide +kernel), List.forall_mem_cons.mpr ⟨List.mem_of_getElem? (i := 114) (by decide +kernel), List.forall_mem_cons.mpr ⟨List.mem_of_getElem? (i := 116) (by decide +kernel), List.forall_mem_cons.mpr ⟨List.mem_of_getElem? (i := 118) (by decide +kernel), fun _ h => absurd h List.not_mem_nil⟩⟩⟩⟩⟩⟩⟩⟩⟩
theorem nwM_in : ∀ q ∈ nwM, nwD q ∈ lw_tbl := List.forall_mem_cons.mpr ⟨List.mem_of_getElem? (i := 241) (by decide +kernel), List.forall_mem_cons.mpr ⟨List.mem_of_getElem? (i := 272) (by decide +kernel), List.forall_mem_cons.mpr ⟨List.mem_of_getElem? (i := 323) (by decide +kernel), List.forall_mem_cons.mpr ⟨List.mem_of_getElem? (i := 338) (by decide +kernel), List.forall_mem_cons.mpr ⟨List.mem_of_getElem? (i := 352) (by decide +kernel), List.forall_mem_cons.mpr ⟨List.mem_of_getElem? (i := 353) (by decide +kernel), fun _ h => absurd h List.not_mem_nil⟩⟩⟩⟩⟩⟩
theorem NW_tbl {args : Array Value} {s : State} (hts : ∀ w ∈ lw_tbl, w.before args s = true) : NW s := ⟨fun q hq => va_Nw.of rfl (hts _ (nwF_in q hq)), fun q hq => va_Nw.of rfl (hts _ (nwM_in q hq))⟩
