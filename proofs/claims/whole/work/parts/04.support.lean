/-! ===== the words of nest mates, in one bundle; a method's start and end; a call with its frame ===== -/
def nwF : List (String × Nat × String × String × String) := [(RX3, 36, "RentOrBuy$Flat", "price", "I"), (RX6, 57, "RentOrBuy$Plans", "days", "I"), (RX2, 18, "RentOrBuy$Plans", "days", "I"), (RX6, 68, "RentOrBuy$Plans", "taken", "LRentOrBuy$Flat;"), (RX6, 100, "RentOrBuy$Lots", "ofPlans", "[I"), (RX6, 104, "RentOrBuy$Lots", "ofEnds", "[I"), (RX6, 136, "RentOrBuy$Shelf", "things", "I"), (RX6, 143, "RentOrBuy$Shelf", "requests", "I"), (RX6, 146, "RentOrBuy$Shelf", "asked", "[I")]
def nwM : List (String × Nat × MethodName) := [(RX3, 32, yX6_isWithin), (RX3, 51, yX6_leastForm), (RX2, 38, yX6_roundedUp), (RX2, 53, yX6_roundedDown), (RX3, 68, yX6_roundedUp), (RX3, 72, yX6_roundedDown)]
def nwC (q : String × Nat × String × String × String) : Cond := .fieldLinkNest q.1 q.2.1 q.2.2.1 q.2.2.2.1 q.2.2.2.2 "RentOrBuy"
def nwD (q : String × Nat × MethodName) : Cond := .methodLinkNest q.1 q.2.1 q.2.2 "RentOrBuy"
def NW (U : State) : Prop := (∀ q ∈ nwF, va_Nw (nwC q) U) ∧ (∀ q ∈ nwM, va_Nw (nwD q) U)
theorem NW.warm {s U : State} (hW : s.WarmedH U.vm) (h : NW s) : NW U := ⟨fun q hq => va_Nw.warmF hW (h.1 q hq), fun q hq => va_Nw.warmM hW (h.2 q hq)⟩
theorem NW.same {u U : State} (hv : u.vm = U.vm) (h : NW u) : NW U := ⟨fun q hq => va_Nw.same rfl hv (h.1 q hq), fun q hq => va_Nw.same rfl hv (h.2 q hq)⟩
theorem NW.f {args : Array Value} {s : State} (h : NW s) (k : Nat) {a : String} {i : Nat} {b n d : String} (hk : nwF[k]? = some (a, i, b, n, d)) : (Cond.fieldLinkNest a i b n d "RentOrBuy").before args s = true := va_Nw.use rfl (h.1 _ (List.mem_of_getElem? hk))
theorem NW.m {s : State} (h : NW s) (k : Nat) {a : String} {i : Nat} {y : MethodName} (hk : nwM[k]? = some (a, i, y)) : va_Nw (.methodLinkNest a i y "RentOrBuy") s := h.2 _ (List.mem_of_getElem? hk)
def prW (D : va_G) (kA : ClassId) (sz : Nat) (ws : va_W) (U : State) : Prop := U.heap.size = sz ∧ va_P D vwCl ws U.heap ∧ va_K D vwCl [(kA, .int)] U ∧ va_D (fun _ => True) ws ∧ NW U
def poW {S : Type} (D : va_G) (A : Nat → Prop) (WU : S → va_W) (u : S) (t : State) : Prop := va_P D vwCl (WU u) t.heap ∧ va_D A (WU u)
theorem prW.blind {av : List Value} {D : va_G} {kA : ClassId} {sz : Nat} {ws : va_W} : FrameBlind (va_Pc av (prW D kA sz ws)) := by
  intro a U g mk q
  obtain ⟨q0, q1, qP, qK, qD, qN⟩ := q
  exact ⟨q0, q1, qP, va_K.moved (u := U) (U := U.calling g mk a) (Vm.Alike.refl U.vm) qK, qD, NW.same (U := U.calling g mk a) rfl qN⟩
theorem prW.of {s : State} {H : Heap} {D : va_G} {kA : ClassId} {A : Nat → Prop} {wc : va_W} (hP : va_P D vwCl wc H) (hD : va_D A wc) (hK : va_K D vwCl [(kA, .int)] s) (hN : NW s) (U : State) (hU : U.heap = H) (hW : s.WarmedH U.vm) : prW D kA H.size wc U := ⟨by rw [hU], by rw [hU]; exact hP, va_K.moved hW.alike hK, hD.weaken (fun _ _ _ _ => trivial), hN.warm hW⟩
theorem prW.preS {s : State} {H : Heap} {D : va_G} {kA : ClassId} {A : Nat → Prop} {wc : va_W} {As : List Value} (hP : va_P D vwCl wc H) (hD : va_D A wc) (hK : va_K D vwCl [(kA, .int)] s) (hN : NW s) : PreS s H (va_Pc As (prW D kA H.size wc)) As := ⟨prW.blind, fun U hU hW => ⟨rfl, prW.of hP hD hK hN U hU hW⟩⟩
theorem prW.preV {s : State} {H : Heap} {D : va_G} {kA : ClassId} {A : Nat → Prop} {wc : va_W} {As : List Value} {b ci q0 : Nat} {q : vw_C} {fs : List Value} (hP : va_P D vwCl wc H) (hD : va_D A wc) (hK : va_K D vwCl [(kA, .int)] s) (hN : NW s) (hc : vwCl[ci]? = some q) (he : wc[q0]? = some (b, .inr (ci, fs))) : PreV s H q.1 b (va_Pc (.ref b :: As) (prW D kA H.size wc)) As := ⟨prW.blind, va_recv hK hP hc he, fun U hU hW => ⟨rfl, prW.of hP hD hK hN U hU hW⟩⟩
section SupW
variable {p : Program} {l : Launch} {e : Env} {R : Room} {s : State} {m : MethodId} {args : Array Value} {below : List Frame} {meth : Method} {c : Code} {H : Heap} {locs : List Loc} {cells slots : Nat} {Q : State → Prop}
variable {pc : Nat} {ls : Array Slot} {rest st0 : List Value} {a : Array Value} {A : Nat → Prop} {H0 : Heap} {mc ms : Nat} {D : va_G} {wc ws wr : va_W}
theorem fr_ok {S : Type} {WU WN : S → va_W} {H1 : Heap} {t : State} {u : S} (ht : t.heap = H1) (hB : poW D (va_A wc H.size) WU u t) (hk1 : ∀ q : Nat, q < H.size → ¬ va_A wc H.size q → H1[q]? = H[q]?) (hP : va_P D vwCl ws H) (hD : va_D A ws) (hS : va_S A H0 H locs) (hA : ∀ q, H0.size ≤ q → A q) (isC isR : List Nat) (hC : isC.map (fun i => ws[i]?) = wc.map some) (hR : isR.map (fun i => ws[i]?) = wr.map some) (hn : va_nd isR = true) (hdis : ∀ i ∈ isR, i ∉ isC) (is : List Nat) (hnd : va_nd is = true) (hs : ∀ u, is.map (fun i => (wr ++ WU u)[i]?) = (WN u).map some) : va_P D vwCl (WN u) H1 ∧ va_D A (WN u) := by
  obtain ⟨hP1, hD1⟩ := hB
  rw [ht] at hP1
  have hF := va_free (wc := wc) hD hS hA isC hC
  obtain ⟨g1, g2⟩ := va_join hP hD isC isR hC hR hn hdis hk1 hF hP1 hD1
  refine ⟨g1.sub is ?_, g2.sub is hnd (hs u)⟩
  have h1 := congrArg (List.filterMap id) (hs u)
  rw [List.filterMap_map, List.filterMap_map] at h1
  rw [show (fun i => (wr ++ WU u)[i]?) = (id ∘ fun i => (wr ++ WU u)[i]?) from rfl, h1]
  rw [show (id ∘ some : Nat × va_E → Option (Nat × va_E)) = some from rfl, List.filterMap_some]
theorem fr_i {S : Type} {post : Int32 → S → Prop} {WU WN : S → va_W} (hr : va_Run p l e R s m args below meth c H locs cells slots mc ms (F0 m pc ls st0) rest (va_Qi post (poW D (va_A wc H.size) WU) (va_A wc H.size) a) (va_A wc H.size)) (hP : va_P D vwCl ws H) (hD : va_D A ws) (hS : va_S A H0 H locs) (hA : ∀ q, H0.size ≤ q → A q) (isC isR : List Nat) (hC : isC.map (fun i => ws[i]?) = wc.map some) (hR : isR.map (fun i => ws[i]?) = wr.map some) (hn : va_nd isR = true) (hdis : ∀ i ∈ isR, i ∉ isC) (is : List Nat) (hnd : va_nd is = true) (hs : ∀ u, is.map (fun i => (wr ++ WU u)[i]?) = (WN u).map some)
    (kk : ∀ (r : Int32) (u : S) (H1 : Heap) (locs1 : List Loc), post r u → va_P D vwCl (WN u) H1 → va_D A (WN u) → va_S A H0 H1 locs1 → W p l e R s m args below meth c H1 locs1 (cells + mc) (slots + ms) Q (F0 m (pc + 3) ls (.int r :: rest))) : W p l e R s m args below meth c H locs cells slots Q (F0 m pc ls st0) := by
  have hF := va_free (wc := wc) hD hS hA isC hC
  refine va_calli hr hS (fun q _ h => hF q h) hF (fun r u t H1 locs1 ht hvm hw hB hz1 hk1 hS1 => ?_)
  obtain ⟨g1, g2⟩ := fr_ok ht hB hk1 hP hD hS hA isC isR hC hR hn hdis is hnd hs
  exact kk r u H1 locs1 hw g1 g2 hS1
theorem fr_l {S : Type} {post : Int64 → S → Prop} {WU WN : S → va_W} (hr : va_Run p l e R s m args below meth c H locs cells slots mc ms (F0 m pc ls st0) rest (va_Ql post (poW D (va_A wc H.size) WU) (va_A wc H.size) a) (va_A wc H.size)) (hP : va_P D vwCl ws H) (hD : va_D A ws) (hS : va_S A H0 H locs) (hA : ∀ q, H0.size ≤ q → A q) (isC isR : List Nat) (hC : isC.map (fun i => ws[i]?) = wc.map some) (hR : isR.map (fun i => ws[i]?) = wr.map some) (hn : va_nd isR = true) (hdis : ∀ i ∈ isR, i ∉ isC) (is : List Nat) (hnd : va_nd is = true) (hs : ∀ u, is.map (fun i => (wr ++ WU u)[i]?) = (WN u).map some)
    (kk : ∀ (r : Int64) (u : S) (H1 : Heap) (locs1 : List Loc), post r u → va_P D vwCl (WN u) H1 → va_D A (WN u) → va_S A H0 H1 locs1 → W p l e R s m args below meth c H1 locs1 (cells + mc) (slots + ms) Q (F0 m (pc + 3) ls (.long r :: rest))) : W p l e R s m args below meth c H locs cells slots Q (F0 m pc ls st0) := by
  have hF := va_free (wc := wc) hD hS hA isC hC
  refine va_calll hr hS (fun q _ h => hF q h) hF (fun r u t H1 locs1 ht hvm hw hB hz1 hk1 hS1 => ?_)
  obtain ⟨g1, g2⟩ := fr_ok ht hB hk1 hP hD hS hA isC isR hC hR hn hdis is hnd hs
  exact kk r u H1 locs1 hw g1 g2 hS1
theorem fr_v {S : Type} {post : S → Prop} {WU WN : S → va_W} (hr : va_Run p l e R s m args below meth c H locs cells slots mc ms (F0 m pc ls st0) rest (va_Qv post (poW D (va_A wc H.size) WU) (va_A wc H.size) a) (va_A wc H.size)) (hP : va_P D vwCl ws H) (hD : va_D A ws) (hS : va_S A H0 H locs) (hA : ∀ q, H0.size ≤ q → A q) (isC isR : List Nat) (hC : isC.map (fun i => ws[i]?) = wc.map some) (hR : isR.map (fun i => ws[i]?) = wr.map some) (hn : va_nd isR = true) (hdis : ∀ i ∈ isR, i ∉ isC) (is : List Nat) (hnd : va_nd is = true) (hs : ∀ u, is.map (fun i => (wr ++ WU u)[i]?) = (WN u).map some)
    (kk : ∀ (u : S) (H1 : Heap) (locs1 : List Loc), post u → va_P D vwCl (WN u) H1 → va_D A (WN u) → va_S A H0 H1 locs1 → W p l e R s m args below meth c H1 locs1 (cells + mc) (slots + ms) Q (F0 m (pc + 3) ls rest)) : W p l e R s m args below meth c H locs cells slots Q (F0 m pc ls st0) := by
  have hF := va_free (wc := wc) hD hS hA isC hC
  refine va_callv hr hS (fun q _ h => hF q h) hF (fun u t H1 locs1 ht hvm hw hB hz1 hk1 hS1 => ?_)
  obtain ⟨g1, g2⟩ := fr_ok ht hB hk1 hP hD hS hA isC isR hC hR hn hdis is hnd hs
  exact kk u H1 locs1 hw g1 g2 hS1
variable {cc : ByteArray}
theorem rt_i {S : Type} {post : Int32 → S → Prop} {WU : S → va_W} (u : S) {v : Int32} (hx : p.tables.exec = Jvm.exec) (hb : c.code = cc) (hr : meth.sig.returnType = some .int) (hlocks : meth.locks = false) (h : post v u) (hP : va_P D vwCl (WU u) H) (hD : va_D A (WU u)) (hS : va_S A s.heap H locs) (hdg : decode cc pc = .ok (.ireturn, 1)) : W p l e R s m args below meth c H locs cells slots (MQ below (va_Qi post (poW D A WU) A) args s cells slots A) (F0 m pc ls [.int v]) :=
  W.iret hx hb hr (fun t ht hW => ⟨⟨v, u, rfl, h, by rw [ht]; exact hP, hD⟩, hS.F ht⟩) hS.2.2 hdg hlocks
theorem rt_z {S : Type} {post : Int32 → S → Prop} {WU : S → va_W} (u : S) {v : Int32} (hx : p.tables.exec = Jvm.exec) (hb : c.code = cc) (hr : meth.sig.returnType = some .boolean) (hlocks : meth.locks = false) (hz : v = 0 ∨ v = 1) (h : post v u) (hP : va_P D vwCl (WU u) H) (hD : va_D A (WU u)) (hS : va_S A s.heap H locs) (hdg : decode cc pc = .ok (.ireturn, 1)) : W p l e R s m args below meth c H locs cells slots (MQ below (va_Qi post (poW D A WU) A) args s cells slots A) (F0 m pc ls [.int v]) :=
  W.zret hx hb hr (by rcases hz with rfl | rfl <;> decide) (fun t ht hW => ⟨⟨v, u, rfl, h, by rw [ht]; exact hP, hD⟩, hS.F ht⟩) hS.2.2 hdg hlocks
theorem rt_l {S : Type} {post : Int64 → S → Prop} {WU : S → va_W} (u : S) {v : Int64} (hx : p.tables.exec = Jvm.exec) (hb : c.code = cc) (hr : meth.sig.returnType = some .long) (hlocks : meth.locks = false) (h : post v u) (hP : va_P D vwCl (WU u) H) (hD : va_D A (WU u)) (hS : va_S A s.heap H locs) (hdg : decode cc pc = .ok (.lreturn, 1)) : W p l e R s m args below meth c H locs cells slots (MQ below (va_Ql post (poW D A WU) A) args s cells slots A) (F0 m pc ls [.long v]) :=
  W.lret hx hb hr (fun t ht hW => ⟨⟨v, u, rfl, h, by rw [ht]; exact hP, hD⟩, hS.F ht⟩) hS.2.2 hdg hlocks
theorem rt_v {S : Type} {post : S → Prop} {WU : S → va_W} (u : S) (hx : p.tables.exec = Jvm.exec) (hb : c.code = cc) (hr : meth.sig.returnType = none) (hlocks : meth.locks = false) (h : post u) (hP : va_P D vwCl (WU u) H) (hD : va_D A (WU u)) (hS : va_S A s.heap H locs) (hdg : decode cc pc = .ok (.return_, 1)) : W p l e R s m args below meth c H locs cells slots (MQ below (va_Qv post (poW D A WU) A) args s cells slots A) (F0 m pc ls []) :=
  W.vret hx hb hr (fun t ht hW => ⟨⟨u, rfl, h, by rw [ht]; exact hP, hD⟩, hS.F ht⟩) hS.2.2 hdg hlocks
end SupW
section SupE
variable {p : Program} {l : Launch} {e : Env} {R : Room} {s : State} {m : MethodId} {args : Array Value} {below : List Frame} {meth : Method} {c : Code} {H : Heap} {locs : List Loc} {cells slots : Nat} {Q : State → Prop}
variable {cc : ByteArray} {pc : Nat} {ls : Array Slot} {rest : List Value} {D : va_G} {A : Nat → Prop} {ws : va_W} {H0 : Heap} {kA : ClassId}
theorem en_ok {vs : List Value} {n : Nat} (ha : args = vs.toArray) (hn : (lg_sl vs).length ≤ n) (k : ∀ ls : Array Slot, lv_has ls n (lv_args 0 vs) → W p l e R s m args below meth c H locs cells slots Q (F0 m 0 ls [])) : W p l e R s m args below meth c H locs cells slots Q (entryFrame m args n) := by
  have e1 : entryFrame m args n = F0 m 0 ((lg_sl vs ++ List.replicate (n - (lg_sl vs).length) Slot.unset).toArray) [] := by rw [ha]; exact lg_entry_eq m vs n
  rw [e1]
  exact k _ (lv_entry vs hn)
/-- a new array of ints: its class is the one that is known -/
theorem na_i (hexec : p.tables.exec = Jvm.exec) (hb : c.code = cc) (harr : (Cond.arrayClass .int).before args s = true) (hK : va_K D vwCl [(kA, .int)] s) (hP : va_P D vwCl ws H) (hD : va_D A ws) (hS : va_S A H0 H locs) (hA : ∀ q, H0.size ≤ q → A q)
    {n : Int32} {N' : Nat} (hn : ¬ n < 0) (hN : n.toNatClampNeg = N') (hbytes : N' * componentBytes .int ≤ 536870912) (hcells : cells + 1 ≤ R.cells) (hslots : slots + N' ≤ R.slots) (hdg : decode cc pc = .ok (.newarray .int, 2))
    (kk : ∀ (q : Nat) (H1 : Heap), va_P D vwCl (ws ++ [(q, .inl (kA, N', .inl (fun _ => (0 : Int32))))]) H1 → va_D A (ws ++ [(q, .inl (kA, N', .inl (fun _ => (0 : Int32))))]) → va_S A H0 H1 locs →
      W p l e R s m args below meth c H1 locs (cells + 1) (slots + N') Q (F0 m (pc + 2) ls (.ref q :: rest))) : W p l e R s m args below meth c H locs cells slots Q (F0 m pc ls (.int n :: rest)) := by
  refine va_newa (atype := .int) (ty := .int) (a0 := (N', .inl (fun _ => (0 : Int32)))) hexec hb harr rfl hK hP hD hS hA (fun _ => rfl) hn hN hbytes hcells hslots hdg (fun q cA H1 hK1 hP1 hD1 hS1 => ?_)
  have e1 : s.vm.findClass ("[" ++ FieldType.int.toString) = some kA := (hK1.2 0 (kA, .int) rfl).2
  have e2 : s.vm.findClass ("[" ++ FieldType.int.toString) = some cA := (hK1.2 1 (cA, .int) rfl).2
  have e3 : cA = kA := Option.some.inj (e2.symm.trans e1)
  subst e3
  exact kk q H1 hP1 hD1 hS1
end SupE
/-- the kinds of the offer that is taken: 0 Flat, 1 Rising, else Capped -/
def tkE (k : Nat) (dr pr ri ca : Int32) : va_E := if k = 0 then .inr (1, [.int dr, .int pr]) else if k = 1 then .inr (4, [.int dr, .int pr, .int ri]) else .inr (0, [.int ri, .int dr, .int pr, .int ca])
section SupT
variable {p : Program} {l : Launch} {e : Env} {R : Room} {s : State} {m : MethodId} {args : Array Value} {below : List Frame} {meth : Method} {c : Code} {H : Heap} {locs : List Loc} {cells slots : Nat} {Q : State → Prop}
variable {cc : ByteArray} {pc : Nat} {ls : Array Slot} {rest : List Value} {D : va_G} {A : Nat → Prop} {a : Nat} {tys : List (ClassId × FieldType)} {ws : va_W} {H0 : Heap}
/-- the price of the offer that is taken, read by a nest mate -/
theorem tk_price (hexec : p.tables.exec = Jvm.exec) (hb : c.code = cc) {Ts : List Cond} (hts : ∀ w ∈ Ts, w.before args s = true) (h0 : ∀ w ∈ wsX00, w ∈ Ts) (h1 : ∀ w ∈ wsX10, w ∈ Ts) (h4 : ∀ w ∈ wsX40, w ∈ Ts) (hown : s.vm.findClass RX3 = some m.cls) (hK : va_K D vwCl tys s) (hP : va_P D vwCl ws H) (hN : NW s) (q0 : Nat) {k : Nat} {dr pr ri ca : Int32} (he : ws[q0]? = some (a, tkE k dr pr ri ca)) (hdg : decode cc pc = .ok (.getfield 36, 3))
    (kk : W p l e R s m args below meth c H locs cells slots Q (F0 m (pc + 3) ls (.int pr :: rest))) : W p l e R s m args below meth c H locs cells slots Q (F0 m pc ls (.ref a :: rest)) := by
  unfold tkE at he
  split at he
  · exact va_getN (D := D) (ci := 1) (v := .int pr) (C := RX1) (T := TX1) (N := 2) hexec hb hts h1 hown hK hP q0 he rfl 1 (by decide) (hN.f 0 rfl) (fun _ h9 => h9) rfl hdg kk
  · split at he
    · exact va_getN (D := D) (ci := 4) (v := .int pr) (C := RX4) (T := TX4) (N := 3) hexec hb hts h4 hown hK hP q0 he rfl 1 (by decide) (hN.f 0 rfl) (fun _ h9 => h9) rfl hdg kk
    · exact va_getN (D := D) (ci := 0) (v := .int pr) (C := RX0) (T := TX0) (N := 4) hexec hb hts h0 hown hK hP q0 he rfl 2 (by decide) (hN.f 0 rfl) (fun _ h9 => h9) rfl hdg kk
end SupT
theorem ix4_out {x : Int32} (h0 : ¬ x = 0) (h1 : ¬ x = 1) (h2 : ¬ x = 2) (h3 : ¬ x = 3) : x.toInt < 0 ∨ 3 < x.toInt := by
  by_cases h : x.toInt < 0
  · exact Or.inl h
  · by_cases h' : 3 < x.toInt
    · exact Or.inr h'
    · exfalso
      have e : ∀ y : Int32, x.toInt = y.toInt → x = y := fun y hy => Int32.toInt_inj.mp hy
      have : x.toInt = 0 ∨ x.toInt = 1 ∨ x.toInt = 2 ∨ x.toInt = 3 := by omega
      rcases this with q | q | q | q
      · exact h0 (e 0 (by rw [q]; rfl))
      · exact h1 (e 1 (by rw [q]; rfl))
      · exact h2 (e 2 (by rw [q]; rfl))
      · exact h3 (e 3 (by rw [q]; rfl))
