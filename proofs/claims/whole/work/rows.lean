section
-- ===== PART A: goes FIRST, ahead of the names: the tables' words, and 'selects' of the private methods out of them =====
/-- a private method of a class that the tables say can be made, by its rows of tables_1 -/
def lw_okq (q : MethodName × Nat) : Prop := (q.1.cls ≠ "java/lang/invoke/MethodHandle" ∧ q.1.cls ≠ "java/lang/invoke/VarHandle") ∧ Cond.instantiable q.1.cls q.2 ∈ tables_1 ∧ Cond.privateMethod q.1 ∈ tables_1 ∧ Cond.instanceMethod q.1 ∈ tables_1
theorem lw_p0 : lw_okq (⟨"RentOrBuy$Shelf", "findOrders", "()V"⟩, 6) := ⟨⟨by decide +kernel, by decide +kernel⟩, List.mem_of_getElem? (i := 68) (by decide +kernel), List.mem_of_getElem? (i := 74) (by decide +kernel), List.mem_of_getElem? (i := 75) (by decide +kernel)⟩
theorem lw_p1 : lw_okq (⟨"RentOrBuy$Shelf", "isOrder", "(I)Z"⟩, 6) := ⟨⟨by decide +kernel, by decide +kernel⟩, List.mem_of_getElem? (i := 68) (by decide +kernel), List.mem_of_getElem? (i := 78) (by decide +kernel), List.mem_of_getElem? (i := 79) (by decide +kernel)⟩
theorem lw_p2 : lw_okq (⟨"RentOrBuy$Lots", "millionthsOf", "(LRentOrBuy$Plans;I)J"⟩, 2) := ⟨⟨by decide +kernel, by decide +kernel⟩, List.mem_of_getElem? (i := 53) (by decide +kernel), List.mem_of_getElem? (i := 305) (by decide +kernel), List.mem_of_getElem? (i := 306) (by decide +kernel)⟩
theorem lw_p3 : lw_okq (⟨"RentOrBuy$Shelf", "placeOf", "(II)I"⟩, 6) := ⟨⟨by decide +kernel, by decide +kernel⟩, List.mem_of_getElem? (i := 68) (by decide +kernel), List.mem_of_getElem? (i := 359) (by decide +kernel), List.mem_of_getElem? (i := 360) (by decide +kernel)⟩
theorem lw_p4 : lw_okq (⟨"RentOrBuy$Shelf", "movedToFront", "(II)I"⟩, 6) := ⟨⟨by decide +kernel, by decide +kernel⟩, List.mem_of_getElem? (i := 68) (by decide +kernel), List.mem_of_getElem? (i := 363) (by decide +kernel), List.mem_of_getElem? (i := 364) (by decide +kernel)⟩
theorem lw_p5 : lw_okq (⟨"RentOrBuy$Shelf", "exchangeNeighbours", "()V"⟩, 6) := ⟨⟨by decide +kernel, by decide +kernel⟩, List.mem_of_getElem? (i := 68) (by decide +kernel), List.mem_of_getElem? (i := 386) (by decide +kernel), List.mem_of_getElem? (i := 387) (by decide +kernel)⟩
theorem lw_p6 : lw_okq (⟨"RentOrBuy$Shelf", "exchangeIn", "(I)Z"⟩, 6) := ⟨⟨by decide +kernel, by decide +kernel⟩, List.mem_of_getElem? (i := 68) (by decide +kernel), List.mem_of_getElem? (i := 390) (by decide +kernel), List.mem_of_getElem? (i := 391) (by decide +kernel)⟩
theorem lw_p7 : lw_okq (⟨"RentOrBuy$Shelf", "payPlaces", "(I)V"⟩, 6) := ⟨⟨by decide +kernel, by decide +kernel⟩, List.mem_of_getElem? (i := 68) (by decide +kernel), List.mem_of_getElem? (i := 394) (by decide +kernel), List.mem_of_getElem? (i := 395) (by decide +kernel)⟩
theorem lw_p8 : lw_okq (⟨"RentOrBuy$Shelf", "moveAhead", "(I)V"⟩, 6) := ⟨⟨by decide +kernel, by decide +kernel⟩, List.mem_of_getElem? (i := 68) (by decide +kernel), List.mem_of_getElem? (i := 398) (by decide +kernel), List.mem_of_getElem? (i := 399) (by decide +kernel)⟩
theorem lw_p9 : lw_okq (⟨"RentOrBuyModel", "knownBy", "(I)I"⟩, 18) := ⟨⟨by decide +kernel, by decide +kernel⟩, List.mem_of_getElem? (i := 430) (by decide +kernel), List.mem_of_getElem? (i := 498) (by decide +kernel), List.mem_of_getElem? (i := 499) (by decide +kernel)⟩
theorem lw_p10 : lw_okq (⟨"RentOrBuyModel", "rentsTo", "(I)I"⟩, 18) := ⟨⟨by decide +kernel, by decide +kernel⟩, List.mem_of_getElem? (i := 430) (by decide +kernel), List.mem_of_getElem? (i := 502) (by decide +kernel), List.mem_of_getElem? (i := 503) (by decide +kernel)⟩
theorem lw_p11 : lw_okq (⟨"RentOrBuyModel", "rentOf", "(I)I"⟩, 18) := ⟨⟨by decide +kernel, by decide +kernel⟩, List.mem_of_getElem? (i := 430) (by decide +kernel), List.mem_of_getElem? (i := 506) (by decide +kernel), List.mem_of_getElem? (i := 507) (by decide +kernel)⟩
theorem lw_p12 : lw_okq (⟨"RentOrBuyModel", "isPlan", "(I)Z"⟩, 18) := ⟨⟨by decide +kernel, by decide +kernel⟩, List.mem_of_getElem? (i := 430) (by decide +kernel), List.mem_of_getElem? (i := 524) (by decide +kernel), List.mem_of_getElem? (i := 525) (by decide +kernel)⟩
theorem lw_p13 : lw_okq (⟨"RentOrBuyModel", "isEnd", "(I)Z"⟩, 18) := ⟨⟨by decide +kernel, by decide +kernel⟩, List.mem_of_getElem? (i := 430) (by decide +kernel), List.mem_of_getElem? (i := 528) (by decide +kernel), List.mem_of_getElem? (i := 529) (by decide +kernel)⟩
theorem lw_p14 : lw_okq (⟨"RentOrBuyModel", "costOf", "(II)I"⟩, 18) := ⟨⟨by decide +kernel, by decide +kernel⟩, List.mem_of_getElem? (i := 430) (by decide +kernel), List.mem_of_getElem? (i := 532) (by decide +kernel), List.mem_of_getElem? (i := 533) (by decide +kernel)⟩
theorem lw_p15 : lw_okq (⟨"RentOrBuyModel", "worstEnd", "(I)I"⟩, 18) := ⟨⟨by decide +kernel, by decide +kernel⟩, List.mem_of_getElem? (i := 430) (by decide +kernel), List.mem_of_getElem? (i := 544) (by decide +kernel), List.mem_of_getElem? (i := 545) (by decide +kernel)⟩
def lw_privs_1 : List (MethodName × Nat) := [(⟨"RentOrBuy$Shelf", "findOrders", "()V"⟩, 6), (⟨"RentOrBuy$Shelf", "isOrder", "(I)Z"⟩, 6), (⟨"RentOrBuy$Lots", "millionthsOf", "(LRentOrBuy$Plans;I)J"⟩, 2), (⟨"RentOrBuy$Shelf", "placeOf", "(II)I"⟩, 6), (⟨"RentOrBuy$Shelf", "movedToFront", "(II)I"⟩, 6), (⟨"RentOrBuy$Shelf", "exchangeNeighbours", "()V"⟩, 6), (⟨"RentOrBuy$Shelf", "exchangeIn", "(I)Z"⟩, 6), (⟨"RentOrBuy$Shelf", "payPlaces", "(I)V"⟩, 6), (⟨"RentOrBuy$Shelf", "moveAhead", "(I)V"⟩, 6), (⟨"RentOrBuyModel", "knownBy", "(I)I"⟩, 18), (⟨"RentOrBuyModel", "rentsTo", "(I)I"⟩, 18), (⟨"RentOrBuyModel", "rentOf", "(I)I"⟩, 18), (⟨"RentOrBuyModel", "isPlan", "(I)Z"⟩, 18), (⟨"RentOrBuyModel", "isEnd", "(I)Z"⟩, 18), (⟨"RentOrBuyModel", "costOf", "(II)I"⟩, 18), (⟨"RentOrBuyModel", "worstEnd", "(I)I"⟩, 18)]
theorem lw_r1 : ∀ q ∈ lw_privs_1, lw_okq q := List.forall_mem_cons.mpr ⟨lw_p0, List.forall_mem_cons.mpr ⟨lw_p1, List.forall_mem_cons.mpr ⟨lw_p2, List.forall_mem_cons.mpr ⟨lw_p3, List.forall_mem_cons.mpr ⟨lw_p4, List.forall_mem_cons.mpr ⟨lw_p5, List.forall_mem_cons.mpr ⟨lw_p6, List.forall_mem_cons.mpr ⟨lw_p7, List.forall_mem_cons.mpr ⟨lw_p8, List.forall_mem_cons.mpr ⟨lw_p9, List.forall_mem_cons.mpr ⟨lw_p10, List.forall_mem_cons.mpr ⟨lw_p11, List.forall_mem_cons.mpr ⟨lw_p12, List.forall_mem_cons.mpr ⟨lw_p13, List.forall_mem_cons.mpr ⟨lw_p14, List.forall_mem_cons.mpr ⟨lw_p15, fun _ h => absurd h List.not_mem_nil⟩⟩⟩⟩⟩⟩⟩⟩⟩⟩⟩⟩⟩⟩⟩⟩
theorem lw_p16 : lw_okq (⟨"RentOrBuyModel", "surePlan", "()I"⟩, 18) := ⟨⟨by decide +kernel, by decide +kernel⟩, List.mem_of_getElem? (i := 430) (by decide +kernel), List.mem_of_getElem? (i := 555) (by decide +kernel), List.mem_of_getElem? (i := 556) (by decide +kernel)⟩
theorem lw_p17 : lw_okq (⟨"RentOrBuyModel", "planShares", "()J"⟩, 18) := ⟨⟨by decide +kernel, by decide +kernel⟩, List.mem_of_getElem? (i := 430) (by decide +kernel), List.mem_of_getElem? (i := 568) (by decide +kernel), List.mem_of_getElem? (i := 569) (by decide +kernel)⟩
theorem lw_p18 : lw_okq (⟨"RentOrBuyModel", "weighed", "(I)J"⟩, 18) := ⟨⟨by decide +kernel, by decide +kernel⟩, List.mem_of_getElem? (i := 430) (by decide +kernel), List.mem_of_getElem? (i := 573) (by decide +kernel), List.mem_of_getElem? (i := 574) (by decide +kernel)⟩
theorem lw_p19 : lw_okq (⟨"RentOrBuyModel", "upper", "()I"⟩, 18) := ⟨⟨by decide +kernel, by decide +kernel⟩, List.mem_of_getElem? (i := 430) (by decide +kernel), List.mem_of_getElem? (i := 581) (by decide +kernel), List.mem_of_getElem? (i := 582) (by decide +kernel)⟩
theorem lw_p20 : lw_okq (⟨"RentOrBuyModel", "lower", "()I"⟩, 18) := ⟨⟨by decide +kernel, by decide +kernel⟩, List.mem_of_getElem? (i := 430) (by decide +kernel), List.mem_of_getElem? (i := 586) (by decide +kernel), List.mem_of_getElem? (i := 587) (by decide +kernel)⟩
theorem lw_p21 : lw_okq (⟨"RentOrBuyModel", "planBy", "(II)I"⟩, 18) := ⟨⟨by decide +kernel, by decide +kernel⟩, List.mem_of_getElem? (i := 430) (by decide +kernel), List.mem_of_getElem? (i := 598) (by decide +kernel), List.mem_of_getElem? (i := 599) (by decide +kernel)⟩
theorem lw_p22 : lw_okq (⟨"RentOrBuyModel", "frontCost", "()I"⟩, 18) := ⟨⟨by decide +kernel, by decide +kernel⟩, List.mem_of_getElem? (i := 430) (by decide +kernel), List.mem_of_getElem? (i := 623) (by decide +kernel), List.mem_of_getElem? (i := 624) (by decide +kernel)⟩
theorem lw_p23 : lw_okq (⟨"RentOrBuyModel", "ordersOf", "()V"⟩, 18) := ⟨⟨by decide +kernel, by decide +kernel⟩, List.mem_of_getElem? (i := 430) (by decide +kernel), List.mem_of_getElem? (i := 627) (by decide +kernel), List.mem_of_getElem? (i := 628) (by decide +kernel)⟩
theorem lw_p24 : lw_okq (⟨"RentOrBuyModel", "staysCost", "(I)I"⟩, 18) := ⟨⟨by decide +kernel, by decide +kernel⟩, List.mem_of_getElem? (i := 430) (by decide +kernel), List.mem_of_getElem? (i := 631) (by decide +kernel), List.mem_of_getElem? (i := 632) (by decide +kernel)⟩
theorem lw_p25 : lw_okq (⟨"RentOrBuyModel", "placeIn", "(II)I"⟩, 18) := ⟨⟨by decide +kernel, by decide +kernel⟩, List.mem_of_getElem? (i := 430) (by decide +kernel), List.mem_of_getElem? (i := 635) (by decide +kernel), List.mem_of_getElem? (i := 636) (by decide +kernel)⟩
theorem lw_p26 : lw_okq (⟨"RentOrBuyModel", "bestCost", "()I"⟩, 18) := ⟨⟨by decide +kernel, by decide +kernel⟩, List.mem_of_getElem? (i := 430) (by decide +kernel), List.mem_of_getElem? (i := 639) (by decide +kernel), List.mem_of_getElem? (i := 640) (by decide +kernel)⟩
theorem lw_p27 : lw_okq (⟨"RentOrBuyModel", "apart", "(II)I"⟩, 18) := ⟨⟨by decide +kernel, by decide +kernel⟩, List.mem_of_getElem? (i := 430) (by decide +kernel), List.mem_of_getElem? (i := 644) (by decide +kernel), List.mem_of_getElem? (i := 645) (by decide +kernel)⟩
theorem lw_p28 : lw_okq (⟨"RentOrBuyModel", "comesOf", "(III)Z"⟩, 18) := ⟨⟨by decide +kernel, by decide +kernel⟩, List.mem_of_getElem? (i := 430) (by decide +kernel), List.mem_of_getElem? (i := 648) (by decide +kernel), List.mem_of_getElem? (i := 649) (by decide +kernel)⟩
def lw_privs_2 : List (MethodName × Nat) := [(⟨"RentOrBuyModel", "surePlan", "()I"⟩, 18), (⟨"RentOrBuyModel", "planShares", "()J"⟩, 18), (⟨"RentOrBuyModel", "weighed", "(I)J"⟩, 18), (⟨"RentOrBuyModel", "upper", "()I"⟩, 18), (⟨"RentOrBuyModel", "lower", "()I"⟩, 18), (⟨"RentOrBuyModel", "planBy", "(II)I"⟩, 18), (⟨"RentOrBuyModel", "frontCost", "()I"⟩, 18), (⟨"RentOrBuyModel", "ordersOf", "()V"⟩, 18), (⟨"RentOrBuyModel", "staysCost", "(I)I"⟩, 18), (⟨"RentOrBuyModel", "placeIn", "(II)I"⟩, 18), (⟨"RentOrBuyModel", "bestCost", "()I"⟩, 18), (⟨"RentOrBuyModel", "apart", "(II)I"⟩, 18), (⟨"RentOrBuyModel", "comesOf", "(III)Z"⟩, 18)]
theorem lw_r2 : ∀ q ∈ lw_privs_2, lw_okq q := List.forall_mem_cons.mpr ⟨lw_p16, List.forall_mem_cons.mpr ⟨lw_p17, List.forall_mem_cons.mpr ⟨lw_p18, List.forall_mem_cons.mpr ⟨lw_p19, List.forall_mem_cons.mpr ⟨lw_p20, List.forall_mem_cons.mpr ⟨lw_p21, List.forall_mem_cons.mpr ⟨lw_p22, List.forall_mem_cons.mpr ⟨lw_p23, List.forall_mem_cons.mpr ⟨lw_p24, List.forall_mem_cons.mpr ⟨lw_p25, List.forall_mem_cons.mpr ⟨lw_p26, List.forall_mem_cons.mpr ⟨lw_p27, List.forall_mem_cons.mpr ⟨lw_p28, fun _ h => absurd h List.not_mem_nil⟩⟩⟩⟩⟩⟩⟩⟩⟩⟩⟩⟩⟩
def lw_privs : List (MethodName × Nat) := lw_privs_1 ++ (lw_privs_2)
def lw_tbl : List Cond := k2_sels lw_privs ++ tables_1
theorem lw_privs_ok : ∀ q ∈ lw_privs, lw_okq q := by
  show ∀ q ∈ lw_privs_1 ++ (lw_privs_2), lw_okq q
  exact List.forall_mem_append.mpr ⟨lw_r1, lw_r2⟩
end
section
/-! ===== BEGIN words of one list among another's, by their places ===== -/
theorem goodIn_r {big : List Cond} (ws : List Cond) (ps : List Nat) (hp : ws = ps.filterMap (fun i => big[i]?)) (h : ws.all goodWord = true) : GoodIn big ws := by
  intro w hw
  have h1 := List.all_eq_true.mp h w hw
  rw [hp] at hw
  obtain ⟨i, -, hi⟩ := List.mem_filterMap.mp hw
  have hm : w ∈ big := by first | exact List.mem_of_getElem? hi | exact List.getElem?_mem hi
  exact ⟨hm, good_of_word h1⟩
theorem goodIn_app {big a b : List Cond} (ha : GoodIn big a) (hb : GoodIn big b) : GoodIn big (a ++ b) := fun w h => (List.mem_append.mp h).elim (ha w) (hb w)
theorem goodIn_ca {big a b : List Cond} {c : Cond} (ha : GoodIn big (c :: a)) (hb : GoodIn big b) : GoodIn big (c :: (a ++ b)) := fun w h => (List.mem_cons.mp h).elim (fun e => ha w (List.mem_cons.mpr (Or.inl e))) (fun h => (List.mem_append.mp h).elim (fun h => ha w (List.mem_cons.mpr (Or.inr h))) (hb w))
theorem goodIn_sub {big ws : List Cond} (hm : ∀ w ∈ ws, w ∈ big) (h : ws.all goodWord = true) : GoodIn big ws := fun w hw => ⟨hm w hw, good_of_word (List.all_eq_true.mp h w hw)⟩
/-! ===== END ===== -/

/-! ===== BEGIN printed: names, fields, word lists, decode rows ===== -/
def RX0 : String := "RentOrBuy$Capped"
def TX0 : u_T := fun k => match k with
  | 0 => ("RentOrBuy$Rising", "rise", "I", true)
  | 1 => ("RentOrBuy$Flat", "dayRent", "I", true)
  | 2 => ("RentOrBuy$Flat", "price", "I", true)
  | _ => ("RentOrBuy$Capped", "cap", "I", true)
def tyX0 : Nat → FieldType := fun k => match k with
  | 0 => .int
  | 1 => .int
  | 2 => .int
  | _ => .int
abbrev wsX00 : List Cond := u_ws RX0 TX0 4
theorem nmX0 : ∀ a, a < 4 → ∀ b, b < 4 → a ≠ b → (TX0 a).2.1 ≠ (TX0 b).2.1 := by decide +kernel
theorem tyX0_ok : ∀ k, k < 4 → parseFieldDescriptor (TX0 k).2.2.1 = some (tyX0 k) := by decide +kernel
abbrev cX0_init : ByteArray := prog_2_method_1_code
def yX0_init : MethodName := ⟨RX0, "<init>", "(IIII)V"⟩
abbrev cX0_kindNumber : ByteArray := prog_2_method_2_code
def yX0_kindNumber : MethodName := ⟨RX0, "kindNumber", "()I"⟩
abbrev cX0_rentOf : ByteArray := prog_2_method_3_code
def yX0_rentOf : MethodName := ⟨RX0, "rentOf", "(I)I"⟩
abbrev cX0_bodiesAsked : ByteArray := prog_2_method_4_code
def yX0_bodiesAsked : MethodName := ⟨RX0, "bodiesAsked", "()I"⟩
def RX1 : String := "RentOrBuy$Flat"
def TX1 : u_T := fun k => match k with
  | 0 => ("RentOrBuy$Flat", "dayRent", "I", true)
  | _ => ("RentOrBuy$Flat", "price", "I", true)
def tyX1 : Nat → FieldType := fun k => match k with
  | 0 => .int
  | _ => .int
abbrev wsX10 : List Cond := u_ws RX1 TX1 2
theorem nmX1 : ∀ a, a < 2 → ∀ b, b < 2 → a ≠ b → (TX1 a).2.1 ≠ (TX1 b).2.1 := by decide +kernel
theorem tyX1_ok : ∀ k, k < 2 → parseFieldDescriptor (TX1 k).2.2.1 = some (tyX1 k) := by decide +kernel
abbrev cX1_init : ByteArray := prog_3_method_1_code
def yX1_init : MethodName := ⟨RX1, "<init>", "(II)V"⟩
abbrev cX1_kindNumber : ByteArray := prog_3_method_2_code
def yX1_kindNumber : MethodName := ⟨RX1, "kindNumber", "()I"⟩
abbrev cX1_rentOf : ByteArray := prog_3_method_3_code
def yX1_rentOf : MethodName := ⟨RX1, "rentOf", "(I)I"⟩
abbrev cX1_bodiesAsked : ByteArray := prog_3_method_4_code
def yX1_bodiesAsked : MethodName := ⟨RX1, "bodiesAsked", "()I"⟩
def RX2 : String := "RentOrBuy$Lots"
def TX2 : u_T := fun k => match k with
  | 0 => ("RentOrBuy$Lots", "ofPlans", "[I", true)
  | _ => ("RentOrBuy$Lots", "ofEnds", "[I", true)
def tyX2 : Nat → FieldType := fun k => match k with
  | 0 => .array .int
  | _ => .array .int
abbrev wsX20 : List Cond := u_ws RX2 TX2 2
theorem nmX2 : ∀ a, a < 2 → ∀ b, b < 2 → a ≠ b → (TX2 a).2.1 ≠ (TX2 b).2.1 := by decide +kernel
theorem tyX2_ok : ∀ k, k < 2 → parseFieldDescriptor (TX2 k).2.2.1 = some (tyX2 k) := by decide +kernel
abbrev cX2_init : ByteArray := prog_4_method_1_code
def yX2_init : MethodName := ⟨RX2, "<init>", "()V"⟩
abbrev cX2_clearAll : ByteArray := prog_4_method_2_code
def yX2_clearAll : MethodName := ⟨RX2, "clearAll", "()V"⟩
abbrev cX2_replace : ByteArray := prog_4_method_3_code
def yX2_replace : MethodName := ⟨RX2, "replace", "([III)I"⟩
abbrev cX2_total : ByteArray := prog_4_method_4_code
def yX2_total : MethodName := ⟨RX2, "total", "([I)I"⟩
abbrev cX2_costsBy : ByteArray := prog_4_method_5_code
def yX2_costsBy : MethodName := ⟨RX2, "costsBy", "(LRentOrBuy$Plans;I)J"⟩
abbrev cX2_upperBound : ByteArray := prog_4_method_6_code
def yX2_upperBound : MethodName := ⟨RX2, "upperBound", "(LRentOrBuy$Plans;I)J"⟩
abbrev cX2_lowerBound : ByteArray := prog_4_method_7_code
def yX2_lowerBound : MethodName := ⟨RX2, "lowerBound", "(LRentOrBuy$Plans;I)J"⟩
abbrev cX2_millionthsOf : ByteArray := prog_4_method_8_code
def yX2_millionthsOf : MethodName := ⟨RX2, "millionthsOf", "(LRentOrBuy$Plans;I)J"⟩
def RX3 : String := "RentOrBuy$Plans"
def TX3 : u_T := fun k => match k with
  | 0 => ("RentOrBuy$Plans", "days", "I", false)
  | 1 => ("RentOrBuy$Plans", "taken", "LRentOrBuy$Flat;", false)
  | _ => ("RentOrBuy$Plans", "rents", "[I", true)
def tyX3 : Nat → FieldType := fun k => match k with
  | 0 => .int
  | 1 => .object "RentOrBuy$Flat"
  | _ => .array .int
abbrev wsX30 : List Cond := u_ws RX3 TX3 3
theorem nmX3 : ∀ a, a < 3 → ∀ b, b < 3 → a ≠ b → (TX3 a).2.1 ≠ (TX3 b).2.1 := by decide +kernel
theorem tyX3_ok : ∀ k, k < 3 → parseFieldDescriptor (TX3 k).2.2.1 = some (tyX3 k) := by decide +kernel
abbrev cX3_init : ByteArray := prog_5_method_1_code
def yX3_init : MethodName := ⟨RX3, "<init>", "()V"⟩
abbrev cX3_take : ByteArray := prog_5_method_2_code
def yX3_take : MethodName := ⟨RX3, "take", "(LRentOrBuy$Flat;)V"⟩
abbrev cX3_isPlan : ByteArray := prog_5_method_3_code
def yX3_isPlan : MethodName := ⟨RX3, "isPlan", "(I)Z"⟩
abbrev cX3_isEnd : ByteArray := prog_5_method_4_code
def yX3_isEnd : MethodName := ⟨RX3, "isEnd", "(I)Z"⟩
abbrev cX3_costOf : ByteArray := prog_5_method_5_code
def yX3_costOf : MethodName := ⟨RX3, "costOf", "(II)I"⟩
abbrev cX3_knownBy : ByteArray := prog_5_method_6_code
def yX3_knownBy : MethodName := ⟨RX3, "knownBy", "(I)I"⟩
abbrev cX3_ratioPart : ByteArray := prog_5_method_7_code
def yX3_ratioPart : MethodName := ⟨RX3, "ratioPart", "(III)I"⟩
abbrev cX3_isRatioGreater : ByteArray := prog_5_method_8_code
def yX3_isRatioGreater : MethodName := ⟨RX3, "isRatioGreater", "(IIII)Z"⟩
abbrev cX3_worstEnd : ByteArray := prog_5_method_9_code
def yX3_worstEnd : MethodName := ⟨RX3, "worstEnd", "(I)I"⟩
abbrev cX3_surePlan : ByteArray := prog_5_method_10_code
def yX3_surePlan : MethodName := ⟨RX3, "surePlan", "()I"⟩
abbrev cX3_planByGuess : ByteArray := prog_5_method_11_code
def yX3_planByGuess : MethodName := ⟨RX3, "planByGuess", "(II)I"⟩
def RX4 : String := "RentOrBuy$Rising"
def TX4 : u_T := fun k => match k with
  | 0 => ("RentOrBuy$Flat", "dayRent", "I", true)
  | 1 => ("RentOrBuy$Flat", "price", "I", true)
  | _ => ("RentOrBuy$Rising", "rise", "I", true)
def tyX4 : Nat → FieldType := fun k => match k with
  | 0 => .int
  | 1 => .int
  | _ => .int
abbrev wsX40 : List Cond := u_ws RX4 TX4 3
theorem nmX4 : ∀ a, a < 3 → ∀ b, b < 3 → a ≠ b → (TX4 a).2.1 ≠ (TX4 b).2.1 := by decide +kernel
theorem tyX4_ok : ∀ k, k < 3 → parseFieldDescriptor (TX4 k).2.2.1 = some (tyX4 k) := by decide +kernel
abbrev cX4_init : ByteArray := prog_6_method_1_code
def yX4_init : MethodName := ⟨RX4, "<init>", "(III)V"⟩
abbrev cX4_kindNumber : ByteArray := prog_6_method_2_code
def yX4_kindNumber : MethodName := ⟨RX4, "kindNumber", "()I"⟩
abbrev cX4_rentOf : ByteArray := prog_6_method_3_code
def yX4_rentOf : MethodName := ⟨RX4, "rentOf", "(I)I"⟩
abbrev cX4_bodiesAsked : ByteArray := prog_6_method_4_code
def yX4_bodiesAsked : MethodName := ⟨RX4, "bodiesAsked", "()I"⟩
def RX5 : String := "RentOrBuy$Shelf"
def TX5 : u_T := fun k => match k with
  | 0 => ("RentOrBuy$Shelf", "things", "I", false)
  | 1 => ("RentOrBuy$Shelf", "requests", "I", false)
  | 2 => ("RentOrBuy$Shelf", "asked", "[I", true)
  | 3 => ("RentOrBuy$Shelf", "orderCount", "I", false)
  | 4 => ("RentOrBuy$Shelf", "orders", "[I", true)
  | _ => ("RentOrBuy$Shelf", "least", "[I", true)
def tyX5 : Nat → FieldType := fun k => match k with
  | 0 => .int
  | 1 => .int
  | 2 => .array .int
  | 3 => .int
  | 4 => .array .int
  | _ => .array .int
abbrev wsX50 : List Cond := u_ws RX5 TX5 6
theorem nmX5 : ∀ a, a < 6 → ∀ b, b < 6 → a ≠ b → (TX5 a).2.1 ≠ (TX5 b).2.1 := by decide +kernel
theorem tyX5_ok : ∀ k, k < 6 → parseFieldDescriptor (TX5 k).2.2.1 = some (tyX5 k) := by decide +kernel
abbrev cX5_init : ByteArray := prog_7_method_1_code
def yX5_init : MethodName := ⟨RX5, "<init>", "()V"⟩
abbrev cX5_restart : ByteArray := prog_7_method_2_code
def yX5_restart : MethodName := ⟨RX5, "restart", "(I)V"⟩
abbrev cX5_findOrders : ByteArray := prog_7_method_3_code
def yX5_findOrders : MethodName := ⟨RX5, "findOrders", "()V"⟩
abbrev cX5_isOrder : ByteArray := prog_7_method_4_code
def yX5_isOrder : MethodName := ⟨RX5, "isOrder", "(I)Z"⟩
abbrev cX5_firstOrder : ByteArray := prog_7_method_5_code
def yX5_firstOrder : MethodName := ⟨RX5, "firstOrder", "()I"⟩
abbrev cX5_thingAt : ByteArray := prog_7_method_6_code
def yX5_thingAt : MethodName := ⟨RX5, "thingAt", "(II)I"⟩
abbrev cX5_placeOf : ByteArray := prog_7_method_7_code
def yX5_placeOf : MethodName := ⟨RX5, "placeOf", "(II)I"⟩
abbrev cX5_exchanged : ByteArray := prog_7_method_8_code
def yX5_exchanged : MethodName := ⟨RX5, "exchanged", "(II)I"⟩
abbrev cX5_movedToFront : ByteArray := prog_7_method_9_code
def yX5_movedToFront : MethodName := ⟨RX5, "movedToFront", "(II)I"⟩
abbrev cX5_frontOrder : ByteArray := prog_7_method_10_code
def yX5_frontOrder : MethodName := ⟨RX5, "frontOrder", "()I"⟩
abbrev cX5_frontCost : ByteArray := prog_7_method_11_code
def yX5_frontCost : MethodName := ⟨RX5, "frontCost", "()I"⟩
abbrev cX5_stayCost : ByteArray := prog_7_method_12_code
def yX5_stayCost : MethodName := ⟨RX5, "stayCost", "(I)I"⟩
abbrev cX5_bestStayCost : ByteArray := prog_7_method_13_code
def yX5_bestStayCost : MethodName := ⟨RX5, "bestStayCost", "()I"⟩
abbrev cX5_bestCost : ByteArray := prog_7_method_14_code
def yX5_bestCost : MethodName := ⟨RX5, "bestCost", "()I"⟩
abbrev cX5_exchangeNeighbours : ByteArray := prog_7_method_15_code
def yX5_exchangeNeighbours : MethodName := ⟨RX5, "exchangeNeighbours", "()V"⟩
abbrev cX5_exchangeIn : ByteArray := prog_7_method_16_code
def yX5_exchangeIn : MethodName := ⟨RX5, "exchangeIn", "(I)Z"⟩
abbrev cX5_payPlaces : ByteArray := prog_7_method_17_code
def yX5_payPlaces : MethodName := ⟨RX5, "payPlaces", "(I)V"⟩
abbrev cX5_moveAhead : ByteArray := prog_7_method_18_code
def yX5_moveAhead : MethodName := ⟨RX5, "moveAhead", "(I)V"⟩
def RX6 : String := "RentOrBuy"
def TX6 : u_T := fun k => match k with
  | 0 => ("RentOrBuy", "plans", "LRentOrBuy$Plans;", true)
  | 1 => ("RentOrBuy", "lots", "LRentOrBuy$Lots;", true)
  | 2 => ("RentOrBuy", "shelf", "LRentOrBuy$Shelf;", true)
  | _ => ("RentOrBuy", "traced", "J", false)
def tyX6 : Nat → FieldType := fun k => match k with
  | 0 => .object "RentOrBuy$Plans"
  | 1 => .object "RentOrBuy$Lots"
  | 2 => .object "RentOrBuy$Shelf"
  | _ => .long
abbrev wsX60 : List Cond := u_ws RX6 TX6 4
theorem nmX6 : ∀ a, a < 4 → ∀ b, b < 4 → a ≠ b → (TX6 a).2.1 ≠ (TX6 b).2.1 := by decide +kernel
theorem tyX6_ok : ∀ k, k < 4 → parseFieldDescriptor (TX6 k).2.2.1 = some (tyX6 k) := by decide +kernel
abbrev cX6_init : ByteArray := prog_1_method_1_code
def yX6_init : MethodName := ⟨RX6, "<init>", "()V"⟩
abbrev cX6_offer : ByteArray := prog_1_method_2_code
def yX6_offer : MethodName := ⟨RX6, "offer", "(IIIII)I"⟩
abbrev cX6_ends : ByteArray := prog_1_method_3_code
def yX6_ends : MethodName := ⟨RX6, "ends", "(I)I"⟩
abbrev cX6_rent : ByteArray := prog_1_method_4_code
def yX6_rent : MethodName := ⟨RX6, "rent", "(I)I"⟩
abbrev cX6_cost : ByteArray := prog_1_method_5_code
def yX6_cost : MethodName := ⟨RX6, "cost", "(II)I"⟩
abbrev cX6_known : ByteArray := prog_1_method_6_code
def yX6_known : MethodName := ⟨RX6, "known", "(I)I"⟩
abbrev cX6_ratio : ByteArray := prog_1_method_7_code
def yX6_ratio : MethodName := ⟨RX6, "ratio", "(III)I"⟩
abbrev cX6_sure : ByteArray := prog_1_method_8_code
def yX6_sure : MethodName := ⟨RX6, "sure", "()I"⟩
abbrev cX6_share : ByteArray := prog_1_method_9_code
def yX6_share : MethodName := ⟨RX6, "share", "(III)I"⟩
abbrev cX6_mean : ByteArray := prog_1_method_10_code
def yX6_mean : MethodName := ⟨RX6, "mean", "(II)J"⟩
abbrev cX6_bound : ByteArray := prog_1_method_11_code
def yX6_bound : MethodName := ⟨RX6, "bound", "(I)I"⟩
abbrev cX6_guess : ByteArray := prog_1_method_12_code
def yX6_guess : MethodName := ⟨RX6, "guess", "(II)I"⟩
abbrev cX6_trust : ByteArray := prog_1_method_13_code
def yX6_trust : MethodName := ⟨RX6, "trust", "(IIII)I"⟩
abbrev cX6_list : ByteArray := prog_1_method_14_code
def yX6_list : MethodName := ⟨RX6, "list", "(I)I"⟩
abbrev cX6_request : ByteArray := prog_1_method_15_code
def yX6_request : MethodName := ⟨RX6, "request", "(I)I"⟩
abbrev cX6_drop : ByteArray := prog_1_method_16_code
def yX6_drop : MethodName := ⟨RX6, "drop", "()I"⟩
abbrev cX6_serve : ByteArray := prog_1_method_17_code
def yX6_serve : MethodName := ⟨RX6, "serve", "(I)I"⟩
abbrev cX6_at : ByteArray := prog_1_method_18_code
def yX6_at : MethodName := ⟨RX6, "at", "(I)I"⟩
abbrev cX6_count : ByteArray := prog_1_method_19_code
def yX6_count : MethodName := ⟨RX6, "count", "(I)I"⟩
abbrev cX6_trace : ByteArray := prog_1_method_20_code
def yX6_trace : MethodName := ⟨RX6, "trace", "()J"⟩
abbrev cX6_isWithin : ByteArray := prog_1_method_21_code
def yX6_isWithin : MethodName := ⟨RX6, "isWithin", "(III)Z"⟩
abbrev cX6_leastForm : ByteArray := prog_1_method_22_code
def yX6_leastForm : MethodName := ⟨RX6, "leastForm", "(JJI)J"⟩
abbrev cX6_commonDivisor : ByteArray := prog_1_method_23_code
def yX6_commonDivisor : MethodName := ⟨RX6, "commonDivisor", "(JJ)J"⟩
abbrev cX6_roundedDown : ByteArray := prog_1_method_24_code
def yX6_roundedDown : MethodName := ⟨RX6, "roundedDown", "(JJ)J"⟩
abbrev cX6_roundedUp : ByteArray := prog_1_method_25_code
def yX6_roundedUp : MethodName := ⟨RX6, "roundedUp", "(JJ)J"⟩
def RX7 : String := "RentOrBuyModel"
def TX7 : u_T := fun k => match k with
  | 0 => ("RentOrBuyModel", "kind", "I", false)
  | 1 => ("RentOrBuyModel", "rent", "I", false)
  | 2 => ("RentOrBuyModel", "rise", "I", false)
  | 3 => ("RentOrBuyModel", "cap", "I", false)
  | 4 => ("RentOrBuyModel", "price", "I", false)
  | 5 => ("RentOrBuyModel", "ends", "I", false)
  | 6 => ("RentOrBuyModel", "planShare", "[I", true)
  | 7 => ("RentOrBuyModel", "endShare", "[I", true)
  | 8 => ("RentOrBuyModel", "things", "I", false)
  | 9 => ("RentOrBuyModel", "requests", "I", false)
  | 10 => ("RentOrBuyModel", "request", "[I", true)
  | 11 => ("RentOrBuyModel", "trace", "J", false)
  | 12 => ("RentOrBuyModel", "row", "[I", true)
  | 13 => ("RentOrBuyModel", "order", "[I", true)
  | 14 => ("RentOrBuyModel", "orders", "I", false)
  | 15 => ("RentOrBuyModel", "least", "[I", true)
  | 16 => ("RentOrBuyModel", "then", "[I", true)
  | _ => ("RentOrBuyModel", "far", "[I", true)
def tyX7 : Nat → FieldType := fun k => match k with
  | 0 => .int
  | 1 => .int
  | 2 => .int
  | 3 => .int
  | 4 => .int
  | 5 => .int
  | 6 => .array .int
  | 7 => .array .int
  | 8 => .int
  | 9 => .int
  | 10 => .array .int
  | 11 => .long
  | 12 => .array .int
  | 13 => .array .int
  | 14 => .int
  | 15 => .array .int
  | 16 => .array .int
  | _ => .array .int
abbrev wsX70 : List Cond := u_ws RX7 TX7 18
theorem nmX7 : ∀ a, a < 18 → ∀ b, b < 18 → a ≠ b → (TX7 a).2.1 ≠ (TX7 b).2.1 := by decide +kernel
theorem tyX7_ok : ∀ k, k < 18 → parseFieldDescriptor (TX7 k).2.2.1 = some (tyX7 k) := by decide +kernel
abbrev cX7_init : ByteArray := prog_9_method_1_code
def yX7_init : MethodName := ⟨RX7, "<init>", "()V"⟩
abbrev cX7_in : ByteArray := prog_9_method_3_code
def yX7_in : MethodName := ⟨RX7, "in", "(III)Z"⟩
abbrev cX7_rentOf : ByteArray := prog_9_method_4_code
def yX7_rentOf : MethodName := ⟨RX7, "rentOf", "(I)I"⟩
abbrev cX7_rentsTo : ByteArray := prog_9_method_5_code
def yX7_rentsTo : MethodName := ⟨RX7, "rentsTo", "(I)I"⟩
abbrev cX7_costOf : ByteArray := prog_9_method_6_code
def yX7_costOf : MethodName := ⟨RX7, "costOf", "(II)I"⟩
abbrev cX7_knownBy : ByteArray := prog_9_method_7_code
def yX7_knownBy : MethodName := ⟨RX7, "knownBy", "(I)I"⟩
abbrev cX7_offer : ByteArray := prog_9_method_8_code
def yX7_offer : MethodName := ⟨RX7, "offer", "(IIIII)I"⟩
abbrev cX7_ends : ByteArray := prog_9_method_9_code
def yX7_ends : MethodName := ⟨RX7, "ends", "(I)I"⟩
abbrev cX7_rent : ByteArray := prog_9_method_10_code
def yX7_rent : MethodName := ⟨RX7, "rent", "(I)I"⟩
abbrev cX7_isPlan : ByteArray := prog_9_method_11_code
def yX7_isPlan : MethodName := ⟨RX7, "isPlan", "(I)Z"⟩
abbrev cX7_isEnd : ByteArray := prog_9_method_12_code
def yX7_isEnd : MethodName := ⟨RX7, "isEnd", "(I)Z"⟩
abbrev cX7_cost : ByteArray := prog_9_method_13_code
def yX7_cost : MethodName := ⟨RX7, "cost", "(II)I"⟩
abbrev cX7_known : ByteArray := prog_9_method_14_code
def yX7_known : MethodName := ⟨RX7, "known", "(I)I"⟩
abbrev cX7_worstEnd : ByteArray := prog_9_method_15_code
def yX7_worstEnd : MethodName := ⟨RX7, "worstEnd", "(I)I"⟩
abbrev cX7_common : ByteArray := prog_9_method_16_code
def yX7_common : MethodName := ⟨RX7, "common", "(JJ)J"⟩
abbrev cX7_ratio : ByteArray := prog_9_method_17_code
def yX7_ratio : MethodName := ⟨RX7, "ratio", "(III)I"⟩
abbrev cX7_surePlan : ByteArray := prog_9_method_18_code
def yX7_surePlan : MethodName := ⟨RX7, "surePlan", "()I"⟩
abbrev cX7_sure : ByteArray := prog_9_method_19_code
def yX7_sure : MethodName := ⟨RX7, "sure", "()I"⟩
abbrev cX7_share : ByteArray := prog_9_method_20_code
def yX7_share : MethodName := ⟨RX7, "share", "(III)I"⟩
abbrev cX7_planShares : ByteArray := prog_9_method_21_code
def yX7_planShares : MethodName := ⟨RX7, "planShares", "()J"⟩
abbrev cX7_weighed : ByteArray := prog_9_method_22_code
def yX7_weighed : MethodName := ⟨RX7, "weighed", "(I)J"⟩
abbrev cX7_mean : ByteArray := prog_9_method_23_code
def yX7_mean : MethodName := ⟨RX7, "mean", "(II)J"⟩
abbrev cX7_upper : ByteArray := prog_9_method_24_code
def yX7_upper : MethodName := ⟨RX7, "upper", "()I"⟩
abbrev cX7_lower : ByteArray := prog_9_method_25_code
def yX7_lower : MethodName := ⟨RX7, "lower", "()I"⟩
abbrev cX7_bound : ByteArray := prog_9_method_26_code
def yX7_bound : MethodName := ⟨RX7, "bound", "(I)I"⟩
abbrev cX7_isTrust : ByteArray := prog_9_method_27_code
def yX7_isTrust : MethodName := ⟨RX7, "isTrust", "(I)Z"⟩
abbrev cX7_planBy : ByteArray := prog_9_method_28_code
def yX7_planBy : MethodName := ⟨RX7, "planBy", "(II)I"⟩
abbrev cX7_guess : ByteArray := prog_9_method_29_code
def yX7_guess : MethodName := ⟨RX7, "guess", "(II)I"⟩
abbrev cX7_trust : ByteArray := prog_9_method_30_code
def yX7_trust : MethodName := ⟨RX7, "trust", "(IIII)I"⟩
abbrev cX7_list : ByteArray := prog_9_method_31_code
def yX7_list : MethodName := ⟨RX7, "list", "(I)I"⟩
abbrev cX7_request : ByteArray := prog_9_method_32_code
def yX7_request : MethodName := ⟨RX7, "request", "(I)I"⟩
abbrev cX7_drop : ByteArray := prog_9_method_33_code
def yX7_drop : MethodName := ⟨RX7, "drop", "()I"⟩
abbrev cX7_frontCost : ByteArray := prog_9_method_34_code
def yX7_frontCost : MethodName := ⟨RX7, "frontCost", "()I"⟩
abbrev cX7_ordersOf : ByteArray := prog_9_method_35_code
def yX7_ordersOf : MethodName := ⟨RX7, "ordersOf", "()V"⟩
abbrev cX7_placeIn : ByteArray := prog_9_method_36_code
def yX7_placeIn : MethodName := ⟨RX7, "placeIn", "(II)I"⟩
abbrev cX7_staysCost : ByteArray := prog_9_method_37_code
def yX7_staysCost : MethodName := ⟨RX7, "staysCost", "(I)I"⟩
abbrev cX7_apart : ByteArray := prog_9_method_38_code
def yX7_apart : MethodName := ⟨RX7, "apart", "(II)I"⟩
abbrev cX7_comesOf : ByteArray := prog_9_method_39_code
def yX7_comesOf : MethodName := ⟨RX7, "comesOf", "(III)Z"⟩
abbrev cX7_bestCost : ByteArray := prog_9_method_40_code
def yX7_bestCost : MethodName := ⟨RX7, "bestCost", "()I"⟩
abbrev cX7_serve : ByteArray := prog_9_method_41_code
def yX7_serve : MethodName := ⟨RX7, "serve", "(I)I"⟩
abbrev cX7_at : ByteArray := prog_9_method_42_code
def yX7_at : MethodName := ⟨RX7, "at", "(I)I"⟩
abbrev cX7_count : ByteArray := prog_9_method_43_code
def yX7_count : MethodName := ⟨RX7, "count", "(I)I"⟩
abbrev cX7_trace : ByteArray := prog_9_method_44_code
def yX7_trace : MethodName := ⟨RX7, "trace", "()J"⟩
def RJ9 : String := "java/lang/Math"
def TJ9 : u_T := fun k => match k with
  | _ => ("", "", "", false)
def tyJ9 : Nat → FieldType := fun k => match k with
  | _ => .int
abbrev wsJ90 : List Cond := u_ws RJ9 TJ9 0
theorem nmJ9 : ∀ a, a < 0 → ∀ b, b < 0 → a ≠ b → (TJ9 a).2.1 ≠ (TJ9 b).2.1 := by decide +kernel
theorem tyJ9_ok : ∀ k, k < 0 → parseFieldDescriptor (TJ9 k).2.2.1 = some (tyJ9 k) := by decide +kernel
abbrev cJ9_max_f86c9 : ByteArray := prog_10_method_66_code
def yJ9_max_f86c9 : MethodName := ⟨RJ9, "max", "(JJ)J"⟩
abbrev cJ9_min_7cf53 : ByteArray := prog_10_method_69_code
def yJ9_min_7cf53 : MethodName := ⟨RJ9, "min", "(II)I"⟩
abbrev cJ9_min_f86c9 : ByteArray := prog_10_method_70_code
def yJ9_min_f86c9 : MethodName := ⟨RJ9, "min", "(JJ)J"⟩
def RL : String := "RentOrBuyLaw"
abbrev cL_law : ByteArray := code
def yL_law : MethodName := ⟨RL, "law", "([I)Z"⟩
def wsX1_init : List Cond := .code yX1_init cX1_init 3 none :: ([.methodLink RX1 3 objectInit, .instanceMethod objectInit, .code objectInit ⟨#[0xb1]⟩ 1 none, .fieldLink RX1 9 "RentOrBuy$Flat" "dayRent" "I", .fieldLink RX1 15 "RentOrBuy$Flat" "price" "I"] ++ wsX00 ++ wsX10 ++ wsX40)
def wsX4_init : List Cond := .code yX4_init cX4_init 4 none :: ([.fieldLink RX4 9 "RentOrBuy$Rising" "rise" "I", .methodLink RX4 3 yX1_init, .instanceMethod yX1_init, .initialized RX1, .code yX1_init cX1_init 3 none, .methodLink RX1 3 objectInit, .instanceMethod objectInit, .code objectInit ⟨#[0xb1]⟩ 1 none, .fieldLink RX1 9 "RentOrBuy$Flat" "dayRent" "I", .fieldLink RX1 15 "RentOrBuy$Flat" "price" "I"] ++ wsX00 ++ wsX40 ++ wsX10)
def wsX0_init : List Cond := .code yX0_init cX0_init 5 none :: ([.fieldLink RX0 9 "RentOrBuy$Capped" "cap" "I", .methodLink RX0 3 yX4_init, .instanceMethod yX4_init, .initialized RX4, .code yX4_init cX4_init 4 none, .fieldLink RX4 9 "RentOrBuy$Rising" "rise" "I", .methodLink RX4 3 yX1_init, .instanceMethod yX1_init, .initialized RX1, .code yX1_init cX1_init 3 none, .methodLink RX1 3 objectInit, .instanceMethod objectInit, .code objectInit ⟨#[0xb1]⟩ 1 none, .fieldLink RX1 9 "RentOrBuy$Flat" "dayRent" "I", .fieldLink RX1 15 "RentOrBuy$Flat" "price" "I"] ++ wsX00 ++ wsX40 ++ wsX10)
def wsX0_kindNumber : List Cond := .code yX0_kindNumber cX0_kindNumber 1 (some .int) :: ([])
def wsX1_rentOf : List Cond := .code yX1_rentOf cX1_rentOf 2 (some .int) :: ([.fieldLink RX1 9 "RentOrBuy$Flat" "dayRent" "I"] ++ wsX00 ++ wsX10 ++ wsX40)
def wsX4_rentOf : List Cond := .code yX4_rentOf cX4_rentOf 2 (some .int) :: ([.fieldLink RX4 9 "RentOrBuy$Rising" "rise" "I", .methodLink RX4 15 yX1_rentOf, .sameMethod "RentOrBuy$Flat" "RentOrBuy$Flat" "rentOf" "(I)I", .superclass RX4 RX1, .instanceMethod yX1_rentOf, .initialized RX1, .code yX1_rentOf cX1_rentOf 2 (some .int), .fieldLink RX1 9 "RentOrBuy$Flat" "dayRent" "I"] ++ wsX00 ++ wsX40 ++ wsX10)
def wsX0_rentOf : List Cond := .code yX0_rentOf cX0_rentOf 2 (some .int) :: ([.fieldLink RX0 9 "RentOrBuy$Capped" "cap" "I", .methodLink RX0 19 Lib.Math.min.name, .static Lib.Math.min.name, .initialized "java/lang/Math", .code Lib.Math.min.name Lib.Math.min.code 2 (some .int), .methodLink RX0 15 yX4_rentOf, .sameMethod "RentOrBuy$Rising" "RentOrBuy$Rising" "rentOf" "(I)I", .superclass RX0 RX4, .instanceMethod yX4_rentOf, .initialized RX4, .code yX4_rentOf cX4_rentOf 2 (some .int), .fieldLink RX4 9 "RentOrBuy$Rising" "rise" "I", .methodLink RX4 15 yX1_rentOf, .sameMethod "RentOrBuy$Flat" "RentOrBuy$Flat" "rentOf" "(I)I", .superclass RX4 RX1, .instanceMethod yX1_rentOf, .initialized RX1, .code yX1_rentOf cX1_rentOf 2 (some .int), .fieldLink RX1 9 "RentOrBuy$Flat" "dayRent" "I"] ++ wsX00 ++ wsX40 ++ wsX10)
def wsX1_bodiesAsked : List Cond := .code yX1_bodiesAsked cX1_bodiesAsked 1 (some .int) :: ([])
def wsX4_bodiesAsked : List Cond := .code yX4_bodiesAsked cX4_bodiesAsked 1 (some .int) :: ([.methodLink RX4 19 yX1_bodiesAsked, .sameMethod "RentOrBuy$Flat" "RentOrBuy$Flat" "bodiesAsked" "()I", .superclass RX4 RX1, .instanceMethod yX1_bodiesAsked, .initialized RX1, .code yX1_bodiesAsked cX1_bodiesAsked 1 (some .int)])
def wsX0_bodiesAsked : List Cond := .code yX0_bodiesAsked cX0_bodiesAsked 1 (some .int) :: ([.methodLink RX0 25 yX4_bodiesAsked, .sameMethod "RentOrBuy$Rising" "RentOrBuy$Rising" "bodiesAsked" "()I", .superclass RX0 RX4, .instanceMethod yX4_bodiesAsked, .initialized RX4, .code yX4_bodiesAsked cX4_bodiesAsked 1 (some .int), .methodLink RX4 19 yX1_bodiesAsked, .sameMethod "RentOrBuy$Flat" "RentOrBuy$Flat" "bodiesAsked" "()I", .superclass RX4 RX1, .instanceMethod yX1_bodiesAsked, .initialized RX1, .code yX1_bodiesAsked cX1_bodiesAsked 1 (some .int)])
def wsX1_kindNumber : List Cond := .code yX1_kindNumber cX1_kindNumber 1 (some .int) :: ([])
def wsX2_init : List Cond := .code yX2_init cX2_init 1 none :: ([.methodLink RX2 3 objectInit, .instanceMethod objectInit, .code objectInit ⟨#[0xb1]⟩ 1 none, .arrayClass .int, .fieldLink RX2 9 "RentOrBuy$Lots" "ofPlans" "[I", .fieldLink RX2 15 "RentOrBuy$Lots" "ofEnds" "[I"] ++ wsX20)
def wsX2_clearAll : List Cond := .code yX2_clearAll cX2_clearAll 2 none :: ([.fieldLink RX2 9 "RentOrBuy$Lots" "ofPlans" "[I", .fieldLink RX2 15 "RentOrBuy$Lots" "ofEnds" "[I"] ++ wsX20)
def wsX2_replace : List Cond := .code yX2_replace cX2_replace 4 (some .int) :: ([])
def wsX2_total : List Cond := .code yX2_total cX2_total 6 (some .int) :: ([])
def wsX3_costOf : List Cond := .code yX3_costOf cX3_costOf 3 (some .int) :: ([.fieldLink RX3 24 "RentOrBuy$Plans" "rents" "[I", .fieldLink RX3 20 "RentOrBuy$Plans" "taken" "LRentOrBuy$Flat;"] ++ wsX30 ++ wsX00 ++ wsX10 ++ wsX40)
def wsX2_costsBy : List Cond := .code yX2_costsBy cX2_costsBy 6 (some .long) :: ([.fieldLink RX2 9 "RentOrBuy$Lots" "ofPlans" "[I", .methodLink RX2 24 yX3_costOf, .instanceMethod yX3_costOf, .selects RX3 yX3_costOf yX3_costOf, .initialized RX3, .code yX3_costOf cX3_costOf 3 (some .int), .fieldLink RX3 24 "RentOrBuy$Plans" "rents" "[I", .fieldLink RX3 20 "RentOrBuy$Plans" "taken" "LRentOrBuy$Flat;"] ++ wsX30 ++ wsX20 ++ wsX00 ++ wsX10 ++ wsX40)
def wsX3_knownBy : List Cond := .code yX3_knownBy cX3_knownBy 2 (some .int) :: ([.fieldLink RX3 20 "RentOrBuy$Plans" "taken" "LRentOrBuy$Flat;", .fieldLink RX3 24 "RentOrBuy$Plans" "rents" "[I", .methodLink RX3 39 Lib.Math.min.name, .static Lib.Math.min.name, .initialized "java/lang/Math", .code Lib.Math.min.name Lib.Math.min.code 2 (some .int)] ++ wsX30 ++ wsX00 ++ wsX10 ++ wsX40)
def wsX6_roundedDown : List Cond := .code yX6_roundedDown cX6_roundedDown 4 (some .long) :: ([])
def wsX6_roundedUp : List Cond := .code yX6_roundedUp cX6_roundedUp 4 (some .long) :: ([.methodLink RX6 177 yX6_roundedDown, .static yX6_roundedDown, .initialized RX6, .code yX6_roundedDown cX6_roundedDown 4 (some .long)])
def wsX2_upperBound_r1 : List Cond := [Cond.constantLong RX2 32 (1000), Cond.methodLink RX2 42 Lib.MathLoose.max_long.x, Cond.static Lib.MathLoose.max_long.x, Cond.initialized "java/lang/Math", Cond.code Lib.MathLoose.max_long.x Lib.MathLoose.max_long.code 4 (some .long), Cond.methodLink RX2 28 yX2_costsBy, Cond.instanceMethod yX2_costsBy, Cond.selects RX2 yX2_costsBy yX2_costsBy, Cond.initialized RX2, Cond.code yX2_costsBy cX2_costsBy 6 (some .long), Cond.fieldLink RX2 9 "RentOrBuy$Lots" "ofPlans" "[I", Cond.methodLink RX2 24 yX3_costOf, Cond.instanceMethod yX3_costOf, Cond.selects RX3 yX3_costOf yX3_costOf, Cond.initialized RX3, Cond.code yX3_costOf cX3_costOf 3 (some .int), Cond.fieldLink RX3 24 "RentOrBuy$Plans" "rents" "[I", Cond.fieldLink RX3 20 "RentOrBuy$Plans" "taken" "LRentOrBuy$Flat;", Cond.methodLink RX2 34 yX3_knownBy, Cond.instanceMethod yX3_knownBy, Cond.selects RX3 yX3_knownBy yX3_knownBy, Cond.code yX3_knownBy cX3_knownBy 2 (some .int), Cond.methodLink RX3 39 Lib.Math.min.name, Cond.static Lib.Math.min.name]
def wsX2_upperBound_r2 : List Cond := [Cond.code Lib.Math.min.name Lib.Math.min.code 2 (some .int), Cond.static yX6_roundedUp, Cond.initialized RX6, Cond.code yX6_roundedUp cX6_roundedUp 4 (some .long), Cond.methodLink RX6 177 yX6_roundedDown, Cond.static yX6_roundedDown, Cond.code yX6_roundedDown cX6_roundedDown 4 (some .long)]
def wsX2_upperBound : List Cond := .code yX2_upperBound cX2_upperBound 8 (some .long) :: ((wsX2_upperBound_r1 ++ wsX2_upperBound_r2) ++ wsX30 ++ wsX20 ++ wsX00 ++ wsX10 ++ wsX40)
def wsX2_millionthsOf : List Cond := .code yX2_millionthsOf cX2_millionthsOf 6 (some .long) :: ([.fieldLink RX2 15 "RentOrBuy$Lots" "ofEnds" "[I", .constantLong RX2 56 (1000000), .methodLink RX2 24 yX3_costOf, .instanceMethod yX3_costOf, .selects RX3 yX3_costOf yX3_costOf, .initialized RX3, .code yX3_costOf cX3_costOf 3 (some .int), .fieldLink RX3 24 "RentOrBuy$Plans" "rents" "[I", .fieldLink RX3 20 "RentOrBuy$Plans" "taken" "LRentOrBuy$Flat;", .methodLink RX2 34 yX3_knownBy, .instanceMethod yX3_knownBy, .selects RX3 yX3_knownBy yX3_knownBy, .code yX3_knownBy cX3_knownBy 2 (some .int), .methodLink RX3 39 Lib.Math.min.name, .static Lib.Math.min.name, .initialized "java/lang/Math", .code Lib.Math.min.name Lib.Math.min.code 2 (some .int), .static yX6_roundedDown, .initialized RX6, .code yX6_roundedDown cX6_roundedDown 4 (some .long)] ++ wsX30 ++ wsX20 ++ wsX00 ++ wsX10 ++ wsX40)
def wsX2_lowerBound_r1 : List Cond := [Cond.methodLink RX2 50 Lib.MathLoose.min_long.x, Cond.static Lib.MathLoose.min_long.x, Cond.initialized "java/lang/Math", Cond.code Lib.MathLoose.min_long.x Lib.MathLoose.min_long.code 4 (some .long), Cond.constantLong RX2 32 (1000), Cond.methodLink RX2 47 yX2_millionthsOf, Cond.instanceMethod yX2_millionthsOf, Cond.selects RX2 yX2_millionthsOf yX2_millionthsOf, Cond.initialized RX2, Cond.code yX2_millionthsOf cX2_millionthsOf 6 (some .long), Cond.fieldLink RX2 15 "RentOrBuy$Lots" "ofEnds" "[I", Cond.constantLong RX2 56 (1000000), Cond.methodLink RX2 24 yX3_costOf, Cond.instanceMethod yX3_costOf, Cond.selects RX3 yX3_costOf yX3_costOf, Cond.initialized RX3, Cond.code yX3_costOf cX3_costOf 3 (some .int), Cond.fieldLink RX3 24 "RentOrBuy$Plans" "rents" "[I", Cond.fieldLink RX3 20 "RentOrBuy$Plans" "taken" "LRentOrBuy$Flat;", Cond.methodLink RX2 34 yX3_knownBy, Cond.instanceMethod yX3_knownBy, Cond.selects RX3 yX3_knownBy yX3_knownBy, Cond.code yX3_knownBy cX3_knownBy 2 (some .int), Cond.methodLink RX3 39 Lib.Math.min.name]
def wsX2_lowerBound_r2 : List Cond := [Cond.static Lib.Math.min.name, Cond.code Lib.Math.min.name Lib.Math.min.code 2 (some .int), Cond.static yX6_roundedDown, Cond.initialized RX6, Cond.code yX6_roundedDown cX6_roundedDown 4 (some .long)]
def wsX2_lowerBound : List Cond := .code yX2_lowerBound cX2_lowerBound 6 (some .long) :: ((wsX2_lowerBound_r1 ++ wsX2_lowerBound_r2) ++ wsX30 ++ wsX20 ++ wsX00 ++ wsX10 ++ wsX40)
def wsX3_init : List Cond := .code yX3_init cX3_init 2 none :: ([.methodLink RX3 3 objectInit, .instanceMethod objectInit, .code objectInit ⟨#[0xb1]⟩ 1 none, .fieldLink RX3 9 "RentOrBuy$Plans" "days" "I", .classLink RX3 15 RX1, .instantiable RX1 2, .initialized RX1, .fieldLink RX3 20 "RentOrBuy$Plans" "taken" "LRentOrBuy$Flat;", .arrayClass .int, .fieldLink RX3 24 "RentOrBuy$Plans" "rents" "[I", .methodLink RX3 17 yX1_init, .instanceMethod yX1_init, .code yX1_init cX1_init 3 none, .methodLink RX1 3 objectInit, .fieldLink RX1 9 "RentOrBuy$Flat" "dayRent" "I", .fieldLink RX1 15 "RentOrBuy$Flat" "price" "I"] ++ wsX30 ++ wsX10 ++ wsX00 ++ wsX40)
def wsX3_take_r1 : List Cond := [Cond.fieldLink RX3 20 "RentOrBuy$Plans" "taken" "LRentOrBuy$Flat;", Cond.fieldLink RX3 24 "RentOrBuy$Plans" "rents" "[I", Cond.methodLink RX3 28 ⟨"RentOrBuy$Flat", "rentOf", "(I)I"⟩, Cond.sameMethod "RentOrBuy$Flat" "RentOrBuy$Flat" "rentOf" "(I)I", Cond.instanceMethod ⟨"RentOrBuy$Flat", "rentOf", "(I)I"⟩, Cond.selects RX0 ⟨"RentOrBuy$Flat", "rentOf", "(I)I"⟩ yX0_rentOf, Cond.instanceMethod yX0_rentOf, Cond.initialized RX0, Cond.code yX0_rentOf cX0_rentOf 2 (some .int), Cond.fieldLink RX0 9 "RentOrBuy$Capped" "cap" "I", Cond.methodLink RX0 19 Lib.Math.min.name, Cond.static Lib.Math.min.name, Cond.initialized "java/lang/Math", Cond.code Lib.Math.min.name Lib.Math.min.code 2 (some .int), Cond.methodLink RX0 15 yX4_rentOf, Cond.sameMethod "RentOrBuy$Rising" "RentOrBuy$Rising" "rentOf" "(I)I", Cond.superclass RX0 RX4, Cond.instanceMethod yX4_rentOf, Cond.initialized RX4, Cond.code yX4_rentOf cX4_rentOf 2 (some .int), Cond.fieldLink RX4 9 "RentOrBuy$Rising" "rise" "I", Cond.methodLink RX4 15 yX1_rentOf, Cond.superclass RX4 RX1, Cond.instanceMethod yX1_rentOf]
def wsX3_take_r2 : List Cond := [Cond.initialized RX1, Cond.code yX1_rentOf cX1_rentOf 2 (some .int), Cond.fieldLink RX1 9 "RentOrBuy$Flat" "dayRent" "I", Cond.methodLink RX3 28 yX1_rentOf, Cond.selects RX1 yX1_rentOf yX1_rentOf, Cond.selects RX4 ⟨"RentOrBuy$Flat", "rentOf", "(I)I"⟩ yX4_rentOf]
def wsX3_take : List Cond := .code yX3_take cX3_take 3 none :: ((wsX3_take_r1 ++ wsX3_take_r2) ++ wsX30 ++ wsX00 ++ wsX40 ++ wsX10)
def wsX6_isWithin : List Cond := .code yX6_isWithin cX6_isWithin 3 (some .boolean) :: ([])
def wsX3_isPlan : List Cond := .code yX3_isPlan cX3_isPlan 2 (some .boolean) :: ([.fieldLink RX3 9 "RentOrBuy$Plans" "days" "I", .static yX6_isWithin, .initialized RX6, .code yX6_isWithin cX6_isWithin 3 (some .boolean)] ++ wsX30)
def wsX3_isEnd : List Cond := .code yX3_isEnd cX3_isEnd 2 (some .boolean) :: ([.fieldLink RX3 9 "RentOrBuy$Plans" "days" "I", .static yX6_isWithin, .initialized RX6, .code yX6_isWithin cX6_isWithin 3 (some .boolean)] ++ wsX30)
def wsX6_commonDivisor : List Cond := .code yX6_commonDivisor cX6_commonDivisor 11 (some .long) :: ([])
def wsX6_leastForm : List Cond := .code yX6_leastForm cX6_leastForm 5 (some .long) :: ([.methodLink RX6 173 yX6_commonDivisor, .static yX6_commonDivisor, .initialized RX6, .code yX6_commonDivisor cX6_commonDivisor 11 (some .long), .methodLink RX6 177 yX6_roundedDown, .static yX6_roundedDown, .code yX6_roundedDown cX6_roundedDown 4 (some .long)])
def wsX3_ratioPart : List Cond := .code yX3_ratioPart cX3_ratioPart 4 (some .int) :: ([.methodLink RX3 45 yX3_costOf, .instanceMethod yX3_costOf, .selects RX3 yX3_costOf yX3_costOf, .initialized RX3, .code yX3_costOf cX3_costOf 3 (some .int), .fieldLink RX3 24 "RentOrBuy$Plans" "rents" "[I", .fieldLink RX3 20 "RentOrBuy$Plans" "taken" "LRentOrBuy$Flat;", .methodLink RX3 48 yX3_knownBy, .instanceMethod yX3_knownBy, .selects RX3 yX3_knownBy yX3_knownBy, .code yX3_knownBy cX3_knownBy 2 (some .int), .methodLink RX3 39 Lib.Math.min.name, .static Lib.Math.min.name, .initialized "java/lang/Math", .code Lib.Math.min.name Lib.Math.min.code 2 (some .int), .static yX6_leastForm, .initialized RX6, .code yX6_leastForm cX6_leastForm 5 (some .long), .methodLink RX6 173 yX6_commonDivisor, .static yX6_commonDivisor, .code yX6_commonDivisor cX6_commonDivisor 11 (some .long), .methodLink RX6 177 yX6_roundedDown, .static yX6_roundedDown, .code yX6_roundedDown cX6_roundedDown 4 (some .long)] ++ wsX30 ++ wsX00 ++ wsX10 ++ wsX40)
def wsX3_isRatioGreater : List Cond := .code yX3_isRatioGreater cX3_isRatioGreater 5 (some .boolean) :: ([.methodLink RX3 45 yX3_costOf, .instanceMethod yX3_costOf, .selects RX3 yX3_costOf yX3_costOf, .initialized RX3, .code yX3_costOf cX3_costOf 3 (some .int), .fieldLink RX3 24 "RentOrBuy$Plans" "rents" "[I", .fieldLink RX3 20 "RentOrBuy$Plans" "taken" "LRentOrBuy$Flat;", .methodLink RX3 48 yX3_knownBy, .instanceMethod yX3_knownBy, .selects RX3 yX3_knownBy yX3_knownBy, .code yX3_knownBy cX3_knownBy 2 (some .int), .methodLink RX3 39 Lib.Math.min.name, .static Lib.Math.min.name, .initialized "java/lang/Math", .code Lib.Math.min.name Lib.Math.min.code 2 (some .int)] ++ wsX30 ++ wsX00 ++ wsX10 ++ wsX40)
def wsX3_worstEnd : List Cond := .code yX3_worstEnd cX3_worstEnd 4 (some .int) :: ([.fieldLink RX3 9 "RentOrBuy$Plans" "days" "I", .methodLink RX3 55 yX3_isRatioGreater, .instanceMethod yX3_isRatioGreater, .selects RX3 yX3_isRatioGreater yX3_isRatioGreater, .initialized RX3, .code yX3_isRatioGreater cX3_isRatioGreater 5 (some .boolean), .methodLink RX3 45 yX3_costOf, .instanceMethod yX3_costOf, .selects RX3 yX3_costOf yX3_costOf, .code yX3_costOf cX3_costOf 3 (some .int), .fieldLink RX3 24 "RentOrBuy$Plans" "rents" "[I", .fieldLink RX3 20 "RentOrBuy$Plans" "taken" "LRentOrBuy$Flat;", .methodLink RX3 48 yX3_knownBy, .instanceMethod yX3_knownBy, .selects RX3 yX3_knownBy yX3_knownBy, .code yX3_knownBy cX3_knownBy 2 (some .int), .methodLink RX3 39 Lib.Math.min.name, .static Lib.Math.min.name, .initialized "java/lang/Math", .code Lib.Math.min.name Lib.Math.min.code 2 (some .int)] ++ wsX30 ++ wsX00 ++ wsX10 ++ wsX40)
def wsX3_surePlan : List Cond := .code yX3_surePlan cX3_surePlan 5 (some .int) :: ([.fieldLink RX3 9 "RentOrBuy$Plans" "days" "I", .methodLink RX3 59 yX3_worstEnd, .instanceMethod yX3_worstEnd, .selects RX3 yX3_worstEnd yX3_worstEnd, .initialized RX3, .code yX3_worstEnd cX3_worstEnd 4 (some .int), .methodLink RX3 55 yX3_isRatioGreater, .instanceMethod yX3_isRatioGreater, .selects RX3 yX3_isRatioGreater yX3_isRatioGreater, .code yX3_isRatioGreater cX3_isRatioGreater 5 (some .boolean), .methodLink RX3 45 yX3_costOf, .instanceMethod yX3_costOf, .selects RX3 yX3_costOf yX3_costOf, .code yX3_costOf cX3_costOf 3 (some .int), .fieldLink RX3 24 "RentOrBuy$Plans" "rents" "[I", .fieldLink RX3 20 "RentOrBuy$Plans" "taken" "LRentOrBuy$Flat;", .methodLink RX3 48 yX3_knownBy, .instanceMethod yX3_knownBy, .selects RX3 yX3_knownBy yX3_knownBy, .code yX3_knownBy cX3_knownBy 2 (some .int), .methodLink RX3 39 Lib.Math.min.name, .static Lib.Math.min.name, .initialized "java/lang/Math", .code Lib.Math.min.name Lib.Math.min.code 2 (some .int)] ++ wsX30 ++ wsX00 ++ wsX10 ++ wsX40)
def wsX3_planByGuess_r1 : List Cond := [Cond.fieldLink RX3 24 "RentOrBuy$Plans" "rents" "[I", Cond.constantLong RX3 66 (10), Cond.fieldLink RX3 9 "RentOrBuy$Plans" "days" "I", Cond.methodLink RX3 75 Lib.MathLoose.min_long.x, Cond.static Lib.MathLoose.min_long.x, Cond.initialized "java/lang/Math", Cond.code Lib.MathLoose.min_long.x Lib.MathLoose.min_long.code 4 (some .long), Cond.methodLink RX3 62 yX3_surePlan, Cond.instanceMethod yX3_surePlan, Cond.selects RX3 yX3_surePlan yX3_surePlan, Cond.initialized RX3, Cond.code yX3_surePlan cX3_surePlan 5 (some .int), Cond.methodLink RX3 59 yX3_worstEnd, Cond.instanceMethod yX3_worstEnd, Cond.selects RX3 yX3_worstEnd yX3_worstEnd, Cond.code yX3_worstEnd cX3_worstEnd 4 (some .int), Cond.methodLink RX3 55 yX3_isRatioGreater, Cond.instanceMethod yX3_isRatioGreater, Cond.selects RX3 yX3_isRatioGreater yX3_isRatioGreater, Cond.code yX3_isRatioGreater cX3_isRatioGreater 5 (some .boolean), Cond.methodLink RX3 45 yX3_costOf, Cond.instanceMethod yX3_costOf, Cond.selects RX3 yX3_costOf yX3_costOf, Cond.code yX3_costOf cX3_costOf 3 (some .int)]
def wsX3_planByGuess_r2 : List Cond := [Cond.fieldLink RX3 20 "RentOrBuy$Plans" "taken" "LRentOrBuy$Flat;", Cond.methodLink RX3 48 yX3_knownBy, Cond.instanceMethod yX3_knownBy, Cond.selects RX3 yX3_knownBy yX3_knownBy, Cond.code yX3_knownBy cX3_knownBy 2 (some .int), Cond.methodLink RX3 39 Lib.Math.min.name, Cond.static Lib.Math.min.name, Cond.code Lib.Math.min.name Lib.Math.min.code 2 (some .int), Cond.static yX6_roundedUp, Cond.initialized RX6, Cond.code yX6_roundedUp cX6_roundedUp 4 (some .long), Cond.methodLink RX6 177 yX6_roundedDown, Cond.static yX6_roundedDown, Cond.code yX6_roundedDown cX6_roundedDown 4 (some .long)]
def wsX3_planByGuess : List Cond := .code yX3_planByGuess cX3_planByGuess 4 (some .int) :: ((wsX3_planByGuess_r1 ++ wsX3_planByGuess_r2) ++ wsX30 ++ wsX00 ++ wsX10 ++ wsX40)
def wsX4_kindNumber : List Cond := .code yX4_kindNumber cX4_kindNumber 1 (some .int) :: ([])
def wsX5_thingAt : List Cond := .code yX5_thingAt cX5_thingAt 2 (some .int) :: ([])
def wsX5_isOrder : List Cond := .code yX5_isOrder cX5_isOrder 4 (some .boolean) :: ([.fieldLink RX5 21 "RentOrBuy$Shelf" "things" "I", .methodLink RX5 38 yX5_thingAt, .static yX5_thingAt, .initialized RX5, .code yX5_thingAt cX5_thingAt 2 (some .int)] ++ wsX50)
def wsX5_findOrders : List Cond := .code yX5_findOrders cX5_findOrders 2 none :: ([.fieldLink RX5 31 "RentOrBuy$Shelf" "orderCount" "I", .fieldLink RX5 15 "RentOrBuy$Shelf" "orders" "[I", .methodLink RX5 34 yX5_isOrder, .instanceMethod yX5_isOrder, .selects RX5 yX5_isOrder yX5_isOrder, .initialized RX5, .code yX5_isOrder cX5_isOrder 4 (some .boolean), .fieldLink RX5 21 "RentOrBuy$Shelf" "things" "I", .methodLink RX5 38 yX5_thingAt, .static yX5_thingAt, .code yX5_thingAt cX5_thingAt 2 (some .int)] ++ wsX50)
def wsX5_init : List Cond := .code yX5_init cX5_init 1 none :: ([.methodLink RX5 3 objectInit, .instanceMethod objectInit, .code objectInit ⟨#[0xb1]⟩ 1 none, .arrayClass .int, .fieldLink RX5 9 "RentOrBuy$Shelf" "asked" "[I", .fieldLink RX5 15 "RentOrBuy$Shelf" "orders" "[I", .fieldLink RX5 18 "RentOrBuy$Shelf" "least" "[I", .fieldLink RX5 21 "RentOrBuy$Shelf" "things" "I", .fieldLink RX5 25 "RentOrBuy$Shelf" "requests" "I", .methodLink RX5 28 yX5_findOrders, .instanceMethod yX5_findOrders, .selects RX5 yX5_findOrders yX5_findOrders, .initialized RX5, .code yX5_findOrders cX5_findOrders 2 none, .fieldLink RX5 31 "RentOrBuy$Shelf" "orderCount" "I", .methodLink RX5 34 yX5_isOrder, .instanceMethod yX5_isOrder, .selects RX5 yX5_isOrder yX5_isOrder, .code yX5_isOrder cX5_isOrder 4 (some .boolean), .methodLink RX5 38 yX5_thingAt, .static yX5_thingAt, .code yX5_thingAt cX5_thingAt 2 (some .int)] ++ wsX50)
def wsX5_restart : List Cond := .code yX5_restart cX5_restart 2 none :: ([.fieldLink RX5 21 "RentOrBuy$Shelf" "things" "I", .fieldLink RX5 25 "RentOrBuy$Shelf" "requests" "I", .methodLink RX5 28 yX5_findOrders, .instanceMethod yX5_findOrders, .selects RX5 yX5_findOrders yX5_findOrders, .initialized RX5, .code yX5_findOrders cX5_findOrders 2 none, .fieldLink RX5 31 "RentOrBuy$Shelf" "orderCount" "I", .fieldLink RX5 15 "RentOrBuy$Shelf" "orders" "[I", .methodLink RX5 34 yX5_isOrder, .instanceMethod yX5_isOrder, .selects RX5 yX5_isOrder yX5_isOrder, .code yX5_isOrder cX5_isOrder 4 (some .boolean), .methodLink RX5 38 yX5_thingAt, .static yX5_thingAt, .code yX5_thingAt cX5_thingAt 2 (some .int)] ++ wsX50)
def wsX5_firstOrder : List Cond := .code yX5_firstOrder cX5_firstOrder 3 (some .int) :: ([.fieldLink RX5 21 "RentOrBuy$Shelf" "things" "I"] ++ wsX50)
def wsX5_placeOf : List Cond := .code yX5_placeOf cX5_placeOf 4 (some .int) :: ([.fieldLink RX5 21 "RentOrBuy$Shelf" "things" "I", .methodLink RX5 38 yX5_thingAt, .static yX5_thingAt, .initialized RX5, .code yX5_thingAt cX5_thingAt 2 (some .int)] ++ wsX50)
def wsX5_exchanged : List Cond := .code yX5_exchanged cX5_exchanged 3 (some .int) :: ([.methodLink RX5 38 yX5_thingAt, .static yX5_thingAt, .initialized RX5, .code yX5_thingAt cX5_thingAt 2 (some .int)])
def wsX5_movedToFront : List Cond := .code yX5_movedToFront cX5_movedToFront 5 (some .int) :: ([.methodLink RX5 42 yX5_placeOf, .instanceMethod yX5_placeOf, .selects RX5 yX5_placeOf yX5_placeOf, .initialized RX5, .code yX5_placeOf cX5_placeOf 4 (some .int), .fieldLink RX5 21 "RentOrBuy$Shelf" "things" "I", .methodLink RX5 38 yX5_thingAt, .static yX5_thingAt, .code yX5_thingAt cX5_thingAt 2 (some .int), .methodLink RX5 45 yX5_exchanged, .static yX5_exchanged, .code yX5_exchanged cX5_exchanged 3 (some .int)] ++ wsX50)
def wsX5_frontOrder : List Cond := .code yX5_frontOrder cX5_frontOrder 3 (some .int) :: ([.fieldLink RX5 25 "RentOrBuy$Shelf" "requests" "I", .fieldLink RX5 9 "RentOrBuy$Shelf" "asked" "[I", .methodLink RX5 48 yX5_firstOrder, .instanceMethod yX5_firstOrder, .selects RX5 yX5_firstOrder yX5_firstOrder, .initialized RX5, .code yX5_firstOrder cX5_firstOrder 3 (some .int), .fieldLink RX5 21 "RentOrBuy$Shelf" "things" "I", .methodLink RX5 52 yX5_movedToFront, .instanceMethod yX5_movedToFront, .selects RX5 yX5_movedToFront yX5_movedToFront, .code yX5_movedToFront cX5_movedToFront 5 (some .int), .methodLink RX5 42 yX5_placeOf, .instanceMethod yX5_placeOf, .selects RX5 yX5_placeOf yX5_placeOf, .code yX5_placeOf cX5_placeOf 4 (some .int), .methodLink RX5 38 yX5_thingAt, .static yX5_thingAt, .code yX5_thingAt cX5_thingAt 2 (some .int), .methodLink RX5 45 yX5_exchanged, .static yX5_exchanged, .code yX5_exchanged cX5_exchanged 3 (some .int)] ++ wsX50)
def wsX5_frontCost : List Cond := .code yX5_frontCost cX5_frontCost 4 (some .int) :: ([.fieldLink RX5 25 "RentOrBuy$Shelf" "requests" "I", .fieldLink RX5 9 "RentOrBuy$Shelf" "asked" "[I", .methodLink RX5 48 yX5_firstOrder, .instanceMethod yX5_firstOrder, .selects RX5 yX5_firstOrder yX5_firstOrder, .initialized RX5, .code yX5_firstOrder cX5_firstOrder 3 (some .int), .fieldLink RX5 21 "RentOrBuy$Shelf" "things" "I", .methodLink RX5 42 yX5_placeOf, .instanceMethod yX5_placeOf, .selects RX5 yX5_placeOf yX5_placeOf, .code yX5_placeOf cX5_placeOf 4 (some .int), .methodLink RX5 38 yX5_thingAt, .static yX5_thingAt, .code yX5_thingAt cX5_thingAt 2 (some .int), .methodLink RX5 52 yX5_movedToFront, .instanceMethod yX5_movedToFront, .selects RX5 yX5_movedToFront yX5_movedToFront, .code yX5_movedToFront cX5_movedToFront 5 (some .int), .methodLink RX5 45 yX5_exchanged, .static yX5_exchanged, .code yX5_exchanged cX5_exchanged 3 (some .int)] ++ wsX50)
def wsX5_stayCost : List Cond := .code yX5_stayCost cX5_stayCost 4 (some .int) :: ([.fieldLink RX5 25 "RentOrBuy$Shelf" "requests" "I", .fieldLink RX5 9 "RentOrBuy$Shelf" "asked" "[I", .methodLink RX5 42 yX5_placeOf, .instanceMethod yX5_placeOf, .selects RX5 yX5_placeOf yX5_placeOf, .initialized RX5, .code yX5_placeOf cX5_placeOf 4 (some .int), .fieldLink RX5 21 "RentOrBuy$Shelf" "things" "I", .methodLink RX5 38 yX5_thingAt, .static yX5_thingAt, .code yX5_thingAt cX5_thingAt 2 (some .int)] ++ wsX50)
def wsX5_bestStayCost : List Cond := .code yX5_bestStayCost cX5_bestStayCost 3 (some .int) :: ([.constant RX5 55 (1000000), .fieldLink RX5 31 "RentOrBuy$Shelf" "orderCount" "I", .fieldLink RX5 15 "RentOrBuy$Shelf" "orders" "[I", .methodLink RX5 60 Lib.Math.min.name, .static Lib.Math.min.name, .initialized "java/lang/Math", .code Lib.Math.min.name Lib.Math.min.code 2 (some .int), .methodLink RX5 56 yX5_stayCost, .instanceMethod yX5_stayCost, .selects RX5 yX5_stayCost yX5_stayCost, .initialized RX5, .code yX5_stayCost cX5_stayCost 4 (some .int), .fieldLink RX5 25 "RentOrBuy$Shelf" "requests" "I", .fieldLink RX5 9 "RentOrBuy$Shelf" "asked" "[I", .methodLink RX5 42 yX5_placeOf, .instanceMethod yX5_placeOf, .selects RX5 yX5_placeOf yX5_placeOf, .code yX5_placeOf cX5_placeOf 4 (some .int), .fieldLink RX5 21 "RentOrBuy$Shelf" "things" "I", .methodLink RX5 38 yX5_thingAt, .static yX5_thingAt, .code yX5_thingAt cX5_thingAt 2 (some .int)] ++ wsX50)
def wsX5_exchangeIn : List Cond := .code yX5_exchangeIn cX5_exchangeIn 5 (some .boolean) :: ([.fieldLink RX5 21 "RentOrBuy$Shelf" "things" "I", .fieldLink RX5 18 "RentOrBuy$Shelf" "least" "[I", .methodLink RX5 45 yX5_exchanged, .static yX5_exchanged, .initialized RX5, .code yX5_exchanged cX5_exchanged 3 (some .int), .methodLink RX5 38 yX5_thingAt, .static yX5_thingAt, .code yX5_thingAt cX5_thingAt 2 (some .int)] ++ wsX50)
def wsX5_exchangeNeighbours : List Cond := .code yX5_exchangeNeighbours cX5_exchangeNeighbours 4 none :: ([.fieldLink RX5 21 "RentOrBuy$Shelf" "things" "I", .fieldLink RX5 31 "RentOrBuy$Shelf" "orderCount" "I", .fieldLink RX5 15 "RentOrBuy$Shelf" "orders" "[I", .methodLink RX5 75 yX5_exchangeIn, .instanceMethod yX5_exchangeIn, .selects RX5 yX5_exchangeIn yX5_exchangeIn, .initialized RX5, .code yX5_exchangeIn cX5_exchangeIn 5 (some .boolean), .fieldLink RX5 18 "RentOrBuy$Shelf" "least" "[I", .methodLink RX5 45 yX5_exchanged, .static yX5_exchanged, .code yX5_exchanged cX5_exchanged 3 (some .int), .methodLink RX5 38 yX5_thingAt, .static yX5_thingAt, .code yX5_thingAt cX5_thingAt 2 (some .int)] ++ wsX50)
def wsX5_payPlaces : List Cond := .code yX5_payPlaces cX5_payPlaces 3 none :: ([.fieldLink RX5 31 "RentOrBuy$Shelf" "orderCount" "I", .fieldLink RX5 18 "RentOrBuy$Shelf" "least" "[I", .fieldLink RX5 15 "RentOrBuy$Shelf" "orders" "[I", .methodLink RX5 42 yX5_placeOf, .instanceMethod yX5_placeOf, .selects RX5 yX5_placeOf yX5_placeOf, .initialized RX5, .code yX5_placeOf cX5_placeOf 4 (some .int), .fieldLink RX5 21 "RentOrBuy$Shelf" "things" "I", .methodLink RX5 38 yX5_thingAt, .static yX5_thingAt, .code yX5_thingAt cX5_thingAt 2 (some .int)] ++ wsX50)
def wsX5_moveAhead : List Cond := .code yX5_moveAhead cX5_moveAhead 5 none :: ([.fieldLink RX5 21 "RentOrBuy$Shelf" "things" "I", .fieldLink RX5 31 "RentOrBuy$Shelf" "orderCount" "I", .fieldLink RX5 15 "RentOrBuy$Shelf" "orders" "[I", .fieldLink RX5 18 "RentOrBuy$Shelf" "least" "[I", .methodLink RX5 60 Lib.Math.min.name, .static Lib.Math.min.name, .initialized "java/lang/Math", .code Lib.Math.min.name Lib.Math.min.code 2 (some .int), .methodLink RX5 38 yX5_thingAt, .static yX5_thingAt, .initialized RX5, .code yX5_thingAt cX5_thingAt 2 (some .int), .methodLink RX5 45 yX5_exchanged, .static yX5_exchanged, .code yX5_exchanged cX5_exchanged 3 (some .int)] ++ wsX50)
def wsX5_bestCost_r1 : List Cond := [Cond.fieldLink RX5 31 "RentOrBuy$Shelf" "orderCount" "I", Cond.fieldLink RX5 18 "RentOrBuy$Shelf" "least" "[I", Cond.fieldLink RX5 15 "RentOrBuy$Shelf" "orders" "[I", Cond.constant RX5 55 (1000000), Cond.fieldLink RX5 25 "RentOrBuy$Shelf" "requests" "I", Cond.fieldLink RX5 9 "RentOrBuy$Shelf" "asked" "[I", Cond.methodLink RX5 60 Lib.Math.min.name, Cond.static Lib.Math.min.name, Cond.initialized "java/lang/Math", Cond.code Lib.Math.min.name Lib.Math.min.code 2 (some .int), Cond.methodLink RX5 48 yX5_firstOrder, Cond.instanceMethod yX5_firstOrder, Cond.selects RX5 yX5_firstOrder yX5_firstOrder, Cond.initialized RX5, Cond.code yX5_firstOrder cX5_firstOrder 3 (some .int), Cond.fieldLink RX5 21 "RentOrBuy$Shelf" "things" "I", Cond.methodLink RX5 65 yX5_exchangeNeighbours, Cond.instanceMethod yX5_exchangeNeighbours, Cond.selects RX5 yX5_exchangeNeighbours yX5_exchangeNeighbours, Cond.code yX5_exchangeNeighbours cX5_exchangeNeighbours 4 none, Cond.methodLink RX5 75 yX5_exchangeIn, Cond.instanceMethod yX5_exchangeIn, Cond.selects RX5 yX5_exchangeIn yX5_exchangeIn, Cond.code yX5_exchangeIn cX5_exchangeIn 5 (some .boolean)]
def wsX5_bestCost_r2 : List Cond := [Cond.methodLink RX5 45 yX5_exchanged, Cond.static yX5_exchanged, Cond.code yX5_exchanged cX5_exchanged 3 (some .int), Cond.methodLink RX5 38 yX5_thingAt, Cond.static yX5_thingAt, Cond.code yX5_thingAt cX5_thingAt 2 (some .int), Cond.methodLink RX5 68 yX5_payPlaces, Cond.instanceMethod yX5_payPlaces, Cond.selects RX5 yX5_payPlaces yX5_payPlaces, Cond.code yX5_payPlaces cX5_payPlaces 3 none, Cond.methodLink RX5 42 yX5_placeOf, Cond.instanceMethod yX5_placeOf, Cond.selects RX5 yX5_placeOf yX5_placeOf, Cond.code yX5_placeOf cX5_placeOf 4 (some .int), Cond.methodLink RX5 72 yX5_moveAhead, Cond.instanceMethod yX5_moveAhead, Cond.selects RX5 yX5_moveAhead yX5_moveAhead, Cond.code yX5_moveAhead cX5_moveAhead 5 none]
def wsX5_bestCost : List Cond := .code yX5_bestCost cX5_bestCost 3 (some .int) :: ((wsX5_bestCost_r1 ++ wsX5_bestCost_r2) ++ wsX50)
def wsX6_init_r1 : List Cond := [Cond.methodLink RX6 1 objectInit, Cond.instanceMethod objectInit, Cond.code objectInit ⟨#[0xb1]⟩ 1 none, Cond.classLink RX6 7 RX3, Cond.instantiable RX3 3, Cond.initialized RX3, Cond.fieldLink RX6 10 "RentOrBuy" "plans" "LRentOrBuy$Plans;", Cond.classLink RX6 16 RX2, Cond.instantiable RX2 2, Cond.initialized RX2, Cond.fieldLink RX6 19 "RentOrBuy" "lots" "LRentOrBuy$Lots;", Cond.classLink RX6 23 RX5, Cond.instantiable RX5 6, Cond.initialized RX5, Cond.fieldLink RX6 26 "RentOrBuy" "shelf" "LRentOrBuy$Shelf;", Cond.fieldLink RX6 30 "RentOrBuy" "traced" "J", Cond.methodLink RX6 9 yX3_init, Cond.instanceMethod yX3_init, Cond.code yX3_init cX3_init 2 none, Cond.methodLink RX3 3 objectInit, Cond.fieldLink RX3 9 "RentOrBuy$Plans" "days" "I", Cond.classLink RX3 15 RX1, Cond.instantiable RX1 2, Cond.initialized RX1]
def wsX6_init_r2 : List Cond := [Cond.fieldLink RX3 20 "RentOrBuy$Plans" "taken" "LRentOrBuy$Flat;", Cond.arrayClass .int, Cond.fieldLink RX3 24 "RentOrBuy$Plans" "rents" "[I", Cond.methodLink RX3 17 yX1_init, Cond.instanceMethod yX1_init, Cond.code yX1_init cX1_init 3 none, Cond.methodLink RX1 3 objectInit, Cond.fieldLink RX1 9 "RentOrBuy$Flat" "dayRent" "I", Cond.fieldLink RX1 15 "RentOrBuy$Flat" "price" "I", Cond.methodLink RX6 18 yX2_init, Cond.instanceMethod yX2_init, Cond.code yX2_init cX2_init 1 none, Cond.methodLink RX2 3 objectInit, Cond.fieldLink RX2 9 "RentOrBuy$Lots" "ofPlans" "[I", Cond.fieldLink RX2 15 "RentOrBuy$Lots" "ofEnds" "[I", Cond.methodLink RX6 25 yX5_init, Cond.instanceMethod yX5_init, Cond.code yX5_init cX5_init 1 none, Cond.methodLink RX5 3 objectInit, Cond.fieldLink RX5 9 "RentOrBuy$Shelf" "asked" "[I", Cond.fieldLink RX5 15 "RentOrBuy$Shelf" "orders" "[I", Cond.fieldLink RX5 18 "RentOrBuy$Shelf" "least" "[I", Cond.fieldLink RX5 21 "RentOrBuy$Shelf" "things" "I", Cond.fieldLink RX5 25 "RentOrBuy$Shelf" "requests" "I"]
def wsX6_init_r3 : List Cond := [Cond.methodLink RX5 28 yX5_findOrders, Cond.instanceMethod yX5_findOrders, Cond.selects RX5 yX5_findOrders yX5_findOrders, Cond.code yX5_findOrders cX5_findOrders 2 none, Cond.fieldLink RX5 31 "RentOrBuy$Shelf" "orderCount" "I", Cond.methodLink RX5 34 yX5_isOrder, Cond.instanceMethod yX5_isOrder, Cond.selects RX5 yX5_isOrder yX5_isOrder, Cond.code yX5_isOrder cX5_isOrder 4 (some .boolean), Cond.methodLink RX5 38 yX5_thingAt, Cond.static yX5_thingAt, Cond.code yX5_thingAt cX5_thingAt 2 (some .int)]
def wsX6_init : List Cond := .code yX6_init cX6_init 1 none :: ((wsX6_init_r1 ++ (wsX6_init_r2 ++ wsX6_init_r3)) ++ wsX30 ++ wsX60 ++ wsX20 ++ wsX50 ++ wsX10 ++ wsX00 ++ wsX40)
def wsX6_offer_r1 : List Cond := [Cond.fieldLink RX6 10 "RentOrBuy" "plans" "LRentOrBuy$Plans;", Cond.classLink RX6 38 RX1, Cond.instantiable RX1 2, Cond.initialized RX1, Cond.classLink RX6 43 RX4, Cond.instantiable RX4 3, Cond.initialized RX4, Cond.classLink RX6 48 RX0, Cond.instantiable RX0 4, Cond.initialized RX0, Cond.methodLink RX6 34 yX6_isWithin, Cond.static yX6_isWithin, Cond.initialized RX6, Cond.code yX6_isWithin cX6_isWithin 3 (some .boolean), Cond.methodLink RX6 40 yX1_init, Cond.instanceMethod yX1_init, Cond.code yX1_init cX1_init 3 none, Cond.methodLink RX1 3 objectInit, Cond.instanceMethod objectInit, Cond.code objectInit ⟨#[0xb1]⟩ 1 none, Cond.fieldLink RX1 9 "RentOrBuy$Flat" "dayRent" "I", Cond.fieldLink RX1 15 "RentOrBuy$Flat" "price" "I", Cond.methodLink RX6 45 yX4_init, Cond.instanceMethod yX4_init]
def wsX6_offer_r2 : List Cond := [Cond.code yX4_init cX4_init 4 none, Cond.fieldLink RX4 9 "RentOrBuy$Rising" "rise" "I", Cond.methodLink RX4 3 yX1_init, Cond.methodLink RX6 50 yX0_init, Cond.instanceMethod yX0_init, Cond.code yX0_init cX0_init 5 none, Cond.fieldLink RX0 9 "RentOrBuy$Capped" "cap" "I", Cond.methodLink RX0 3 yX4_init, Cond.methodLink RX6 53 yX3_take, Cond.instanceMethod yX3_take, Cond.selects RX3 yX3_take yX3_take, Cond.initialized RX3, Cond.code yX3_take cX3_take 3 none, Cond.fieldLink RX3 20 "RentOrBuy$Plans" "taken" "LRentOrBuy$Flat;", Cond.fieldLink RX3 24 "RentOrBuy$Plans" "rents" "[I", Cond.methodLink RX3 28 ⟨"RentOrBuy$Flat", "rentOf", "(I)I"⟩, Cond.sameMethod "RentOrBuy$Flat" "RentOrBuy$Flat" "rentOf" "(I)I", Cond.instanceMethod ⟨"RentOrBuy$Flat", "rentOf", "(I)I"⟩, Cond.selects RX0 ⟨"RentOrBuy$Flat", "rentOf", "(I)I"⟩ yX0_rentOf, Cond.instanceMethod yX0_rentOf, Cond.code yX0_rentOf cX0_rentOf 2 (some .int), Cond.methodLink RX0 19 Lib.Math.min.name, Cond.static Lib.Math.min.name, Cond.initialized "java/lang/Math"]
def wsX6_offer_r3 : List Cond := [Cond.code Lib.Math.min.name Lib.Math.min.code 2 (some .int), Cond.methodLink RX0 15 yX4_rentOf, Cond.sameMethod "RentOrBuy$Rising" "RentOrBuy$Rising" "rentOf" "(I)I", Cond.superclass RX0 RX4, Cond.instanceMethod yX4_rentOf, Cond.code yX4_rentOf cX4_rentOf 2 (some .int), Cond.methodLink RX4 15 yX1_rentOf, Cond.superclass RX4 RX1, Cond.instanceMethod yX1_rentOf, Cond.code yX1_rentOf cX1_rentOf 2 (some .int), Cond.methodLink RX3 28 yX1_rentOf, Cond.selects RX1 yX1_rentOf yX1_rentOf, Cond.selects RX4 ⟨"RentOrBuy$Flat", "rentOf", "(I)I"⟩ yX4_rentOf, Cond.methodLink RX6 61 yX3_knownBy, Cond.instanceMethod yX3_knownBy, Cond.selects RX3 yX3_knownBy yX3_knownBy, Cond.code yX3_knownBy cX3_knownBy 2 (some .int), Cond.methodLink RX3 39 Lib.Math.min.name]
def wsX6_offer : List Cond := .code yX6_offer cX6_offer 6 (some .int) :: ((wsX6_offer_r1 ++ (wsX6_offer_r2 ++ wsX6_offer_r3)) ++ wsX60 ++ wsX10 ++ wsX40 ++ wsX00 ++ wsX30)
def wsX6_ends : List Cond := .code yX6_ends cX6_ends 3 (some .int) :: ([.fieldLink RX6 10 "RentOrBuy" "plans" "LRentOrBuy$Plans;", .fieldLink RX6 19 "RentOrBuy" "lots" "LRentOrBuy$Lots;", .methodLink RX6 34 yX6_isWithin, .static yX6_isWithin, .initialized RX6, .code yX6_isWithin cX6_isWithin 3 (some .boolean), .methodLink RX6 65 yX2_clearAll, .instanceMethod yX2_clearAll, .selects RX2 yX2_clearAll yX2_clearAll, .initialized RX2, .code yX2_clearAll cX2_clearAll 2 none, .fieldLink RX2 9 "RentOrBuy$Lots" "ofPlans" "[I", .fieldLink RX2 15 "RentOrBuy$Lots" "ofEnds" "[I"] ++ wsX60 ++ wsX30 ++ wsX20)
def wsX6_rent_r1 : List Cond := [Cond.fieldLink RX6 30 "RentOrBuy" "traced" "J", Cond.fieldLink RX6 10 "RentOrBuy" "plans" "LRentOrBuy$Plans;", Cond.methodLink RX6 34 yX6_isWithin, Cond.static yX6_isWithin, Cond.initialized RX6, Cond.code yX6_isWithin cX6_isWithin 3 (some .boolean), Cond.methodLink RX6 72 ⟨"RentOrBuy$Flat", "bodiesAsked", "()I"⟩, Cond.sameMethod "RentOrBuy$Flat" "RentOrBuy$Flat" "bodiesAsked" "()I", Cond.instanceMethod ⟨"RentOrBuy$Flat", "bodiesAsked", "()I"⟩, Cond.selects RX0 ⟨"RentOrBuy$Flat", "bodiesAsked", "()I"⟩ yX0_bodiesAsked, Cond.instanceMethod yX0_bodiesAsked, Cond.initialized RX0, Cond.code yX0_bodiesAsked cX0_bodiesAsked 1 (some .int), Cond.methodLink RX0 25 yX4_bodiesAsked, Cond.sameMethod "RentOrBuy$Rising" "RentOrBuy$Rising" "bodiesAsked" "()I", Cond.superclass RX0 RX4, Cond.instanceMethod yX4_bodiesAsked, Cond.initialized RX4, Cond.code yX4_bodiesAsked cX4_bodiesAsked 1 (some .int), Cond.methodLink RX4 19 yX1_bodiesAsked, Cond.superclass RX4 RX1, Cond.instanceMethod yX1_bodiesAsked, Cond.initialized RX1, Cond.code yX1_bodiesAsked cX1_bodiesAsked 1 (some .int)]
def wsX6_rent_r2 : List Cond := [Cond.methodLink RX6 72 yX1_bodiesAsked, Cond.selects RX1 yX1_bodiesAsked yX1_bodiesAsked, Cond.selects RX4 ⟨"RentOrBuy$Flat", "bodiesAsked", "()I"⟩ yX4_bodiesAsked, Cond.methodLink RX6 76 ⟨"RentOrBuy$Flat", "rentOf", "(I)I"⟩, Cond.sameMethod "RentOrBuy$Flat" "RentOrBuy$Flat" "rentOf" "(I)I", Cond.instanceMethod ⟨"RentOrBuy$Flat", "rentOf", "(I)I"⟩, Cond.selects RX0 ⟨"RentOrBuy$Flat", "rentOf", "(I)I"⟩ yX0_rentOf, Cond.instanceMethod yX0_rentOf, Cond.code yX0_rentOf cX0_rentOf 2 (some .int), Cond.fieldLink RX0 9 "RentOrBuy$Capped" "cap" "I", Cond.methodLink RX0 19 Lib.Math.min.name, Cond.static Lib.Math.min.name, Cond.initialized "java/lang/Math", Cond.code Lib.Math.min.name Lib.Math.min.code 2 (some .int), Cond.methodLink RX0 15 yX4_rentOf, Cond.sameMethod "RentOrBuy$Rising" "RentOrBuy$Rising" "rentOf" "(I)I", Cond.instanceMethod yX4_rentOf, Cond.code yX4_rentOf cX4_rentOf 2 (some .int), Cond.fieldLink RX4 9 "RentOrBuy$Rising" "rise" "I", Cond.methodLink RX4 15 yX1_rentOf, Cond.instanceMethod yX1_rentOf, Cond.code yX1_rentOf cX1_rentOf 2 (some .int), Cond.fieldLink RX1 9 "RentOrBuy$Flat" "dayRent" "I", Cond.methodLink RX6 76 yX1_rentOf]
def wsX6_rent_r3 : List Cond := [Cond.selects RX1 yX1_rentOf yX1_rentOf, Cond.selects RX4 ⟨"RentOrBuy$Flat", "rentOf", "(I)I"⟩ yX4_rentOf]
def wsX6_rent : List Cond := .code yX6_rent cX6_rent 2 (some .int) :: ((wsX6_rent_r1 ++ (wsX6_rent_r2 ++ wsX6_rent_r3)) ++ wsX60 ++ wsX30 ++ wsX00 ++ wsX40 ++ wsX10)
def wsX6_cost : List Cond := .code yX6_cost cX6_cost 3 (some .int) :: ([.fieldLink RX6 10 "RentOrBuy" "plans" "LRentOrBuy$Plans;", .methodLink RX6 79 yX3_isPlan, .instanceMethod yX3_isPlan, .selects RX3 yX3_isPlan yX3_isPlan, .initialized RX3, .code yX3_isPlan cX3_isPlan 2 (some .boolean), .fieldLink RX3 9 "RentOrBuy$Plans" "days" "I", .static yX6_isWithin, .initialized RX6, .code yX6_isWithin cX6_isWithin 3 (some .boolean), .methodLink RX6 83 yX3_isEnd, .instanceMethod yX3_isEnd, .selects RX3 yX3_isEnd yX3_isEnd, .code yX3_isEnd cX3_isEnd 2 (some .boolean), .methodLink RX6 86 yX3_costOf, .instanceMethod yX3_costOf, .selects RX3 yX3_costOf yX3_costOf, .code yX3_costOf cX3_costOf 3 (some .int), .fieldLink RX3 24 "RentOrBuy$Plans" "rents" "[I", .fieldLink RX3 20 "RentOrBuy$Plans" "taken" "LRentOrBuy$Flat;"] ++ wsX60 ++ wsX30 ++ wsX00 ++ wsX10 ++ wsX40)
def wsX6_known : List Cond := .code yX6_known cX6_known 2 (some .int) :: ([.fieldLink RX6 10 "RentOrBuy" "plans" "LRentOrBuy$Plans;", .methodLink RX6 83 yX3_isEnd, .instanceMethod yX3_isEnd, .selects RX3 yX3_isEnd yX3_isEnd, .initialized RX3, .code yX3_isEnd cX3_isEnd 2 (some .boolean), .fieldLink RX3 9 "RentOrBuy$Plans" "days" "I", .static yX6_isWithin, .initialized RX6, .code yX6_isWithin cX6_isWithin 3 (some .boolean), .methodLink RX6 61 yX3_knownBy, .instanceMethod yX3_knownBy, .selects RX3 yX3_knownBy yX3_knownBy, .code yX3_knownBy cX3_knownBy 2 (some .int), .fieldLink RX3 20 "RentOrBuy$Plans" "taken" "LRentOrBuy$Flat;", .fieldLink RX3 24 "RentOrBuy$Plans" "rents" "[I", .methodLink RX3 39 Lib.Math.min.name, .static Lib.Math.min.name, .initialized "java/lang/Math", .code Lib.Math.min.name Lib.Math.min.code 2 (some .int)] ++ wsX60 ++ wsX30 ++ wsX00 ++ wsX10 ++ wsX40)
def wsX6_ratio_r1 : List Cond := [Cond.fieldLink RX6 10 "RentOrBuy" "plans" "LRentOrBuy$Plans;", Cond.methodLink RX6 79 yX3_isPlan, Cond.instanceMethod yX3_isPlan, Cond.selects RX3 yX3_isPlan yX3_isPlan, Cond.initialized RX3, Cond.code yX3_isPlan cX3_isPlan 2 (some .boolean), Cond.fieldLink RX3 9 "RentOrBuy$Plans" "days" "I", Cond.static yX6_isWithin, Cond.initialized RX6, Cond.code yX6_isWithin cX6_isWithin 3 (some .boolean), Cond.methodLink RX6 83 yX3_isEnd, Cond.instanceMethod yX3_isEnd, Cond.selects RX3 yX3_isEnd yX3_isEnd, Cond.code yX3_isEnd cX3_isEnd 2 (some .boolean), Cond.methodLink RX6 34 yX6_isWithin, Cond.methodLink RX6 90 yX3_worstEnd, Cond.instanceMethod yX3_worstEnd, Cond.selects RX3 yX3_worstEnd yX3_worstEnd, Cond.code yX3_worstEnd cX3_worstEnd 4 (some .int), Cond.methodLink RX3 55 yX3_isRatioGreater, Cond.instanceMethod yX3_isRatioGreater, Cond.selects RX3 yX3_isRatioGreater yX3_isRatioGreater, Cond.code yX3_isRatioGreater cX3_isRatioGreater 5 (some .boolean), Cond.methodLink RX3 45 yX3_costOf]
def wsX6_ratio_r2 : List Cond := [Cond.instanceMethod yX3_costOf, Cond.selects RX3 yX3_costOf yX3_costOf, Cond.code yX3_costOf cX3_costOf 3 (some .int), Cond.fieldLink RX3 24 "RentOrBuy$Plans" "rents" "[I", Cond.fieldLink RX3 20 "RentOrBuy$Plans" "taken" "LRentOrBuy$Flat;", Cond.methodLink RX3 48 yX3_knownBy, Cond.instanceMethod yX3_knownBy, Cond.selects RX3 yX3_knownBy yX3_knownBy, Cond.code yX3_knownBy cX3_knownBy 2 (some .int), Cond.methodLink RX3 39 Lib.Math.min.name, Cond.static Lib.Math.min.name, Cond.initialized "java/lang/Math", Cond.code Lib.Math.min.name Lib.Math.min.code 2 (some .int), Cond.methodLink RX6 93 yX3_ratioPart, Cond.instanceMethod yX3_ratioPart, Cond.selects RX3 yX3_ratioPart yX3_ratioPart, Cond.code yX3_ratioPart cX3_ratioPart 4 (some .int), Cond.static yX6_leastForm, Cond.code yX6_leastForm cX6_leastForm 5 (some .long), Cond.methodLink RX6 173 yX6_commonDivisor, Cond.static yX6_commonDivisor, Cond.code yX6_commonDivisor cX6_commonDivisor 11 (some .long), Cond.methodLink RX6 177 yX6_roundedDown, Cond.static yX6_roundedDown]
def wsX6_ratio_r3 : List Cond := [Cond.code yX6_roundedDown cX6_roundedDown 4 (some .long)]
def wsX6_ratio : List Cond := .code yX6_ratio cX6_ratio 4 (some .int) :: ((wsX6_ratio_r1 ++ (wsX6_ratio_r2 ++ wsX6_ratio_r3)) ++ wsX60 ++ wsX30 ++ wsX00 ++ wsX10 ++ wsX40)
def wsX6_sure_r1 : List Cond := [Cond.fieldLink RX6 10 "RentOrBuy" "plans" "LRentOrBuy$Plans;", Cond.methodLink RX6 97 yX3_surePlan, Cond.instanceMethod yX3_surePlan, Cond.selects RX3 yX3_surePlan yX3_surePlan, Cond.initialized RX3, Cond.code yX3_surePlan cX3_surePlan 5 (some .int), Cond.fieldLink RX3 9 "RentOrBuy$Plans" "days" "I", Cond.methodLink RX3 59 yX3_worstEnd, Cond.instanceMethod yX3_worstEnd, Cond.selects RX3 yX3_worstEnd yX3_worstEnd, Cond.code yX3_worstEnd cX3_worstEnd 4 (some .int), Cond.methodLink RX3 55 yX3_isRatioGreater, Cond.instanceMethod yX3_isRatioGreater, Cond.selects RX3 yX3_isRatioGreater yX3_isRatioGreater, Cond.code yX3_isRatioGreater cX3_isRatioGreater 5 (some .boolean), Cond.methodLink RX3 45 yX3_costOf, Cond.instanceMethod yX3_costOf, Cond.selects RX3 yX3_costOf yX3_costOf, Cond.code yX3_costOf cX3_costOf 3 (some .int), Cond.fieldLink RX3 24 "RentOrBuy$Plans" "rents" "[I", Cond.fieldLink RX3 20 "RentOrBuy$Plans" "taken" "LRentOrBuy$Flat;", Cond.methodLink RX3 48 yX3_knownBy, Cond.instanceMethod yX3_knownBy, Cond.selects RX3 yX3_knownBy yX3_knownBy]
def wsX6_sure_r2 : List Cond := [Cond.code yX3_knownBy cX3_knownBy 2 (some .int), Cond.methodLink RX3 39 Lib.Math.min.name, Cond.static Lib.Math.min.name, Cond.initialized "java/lang/Math", Cond.code Lib.Math.min.name Lib.Math.min.code 2 (some .int)]
def wsX6_sure : List Cond := .code yX6_sure cX6_sure 1 (some .int) :: ((wsX6_sure_r1 ++ wsX6_sure_r2) ++ wsX60 ++ wsX30 ++ wsX00 ++ wsX10 ++ wsX40)
def wsX6_share : List Cond := .code yX6_share cX6_share 4 (some .int) :: ([.fieldLink RX6 10 "RentOrBuy" "plans" "LRentOrBuy$Plans;", .fieldLink RX6 19 "RentOrBuy" "lots" "LRentOrBuy$Lots;", .methodLink RX6 34 yX6_isWithin, .static yX6_isWithin, .initialized RX6, .code yX6_isWithin cX6_isWithin 3 (some .boolean), .methodLink RX6 79 yX3_isPlan, .instanceMethod yX3_isPlan, .selects RX3 yX3_isPlan yX3_isPlan, .initialized RX3, .code yX3_isPlan cX3_isPlan 2 (some .boolean), .fieldLink RX3 9 "RentOrBuy$Plans" "days" "I", .methodLink RX6 83 yX3_isEnd, .instanceMethod yX3_isEnd, .selects RX3 yX3_isEnd yX3_isEnd, .code yX3_isEnd cX3_isEnd 2 (some .boolean), .methodLink RX6 107 yX2_replace, .static yX2_replace, .initialized RX2, .code yX2_replace cX2_replace 4 (some .int)] ++ wsX60 ++ wsX20 ++ wsX30)
def wsX6_mean_r1 : List Cond := [Cond.fieldLink RX6 10 "RentOrBuy" "plans" "LRentOrBuy$Plans;", Cond.constantLong RX6 111 (-1), Cond.fieldLink RX6 19 "RentOrBuy" "lots" "LRentOrBuy$Lots;", Cond.constantLong RX6 117 (-2), Cond.methodLink RX6 83 yX3_isEnd, Cond.instanceMethod yX3_isEnd, Cond.selects RX3 yX3_isEnd yX3_isEnd, Cond.initialized RX3, Cond.code yX3_isEnd cX3_isEnd 2 (some .boolean), Cond.fieldLink RX3 9 "RentOrBuy$Plans" "days" "I", Cond.static yX6_isWithin, Cond.initialized RX6, Cond.code yX6_isWithin cX6_isWithin 3 (some .boolean), Cond.methodLink RX6 34 yX6_isWithin, Cond.methodLink RX6 113 yX2_total, Cond.static yX2_total, Cond.initialized RX2, Cond.code yX2_total cX2_total 6 (some .int), Cond.methodLink RX6 119 yX2_costsBy, Cond.instanceMethod yX2_costsBy, Cond.selects RX2 yX2_costsBy yX2_costsBy, Cond.code yX2_costsBy cX2_costsBy 6 (some .long), Cond.fieldLink RX2 9 "RentOrBuy$Lots" "ofPlans" "[I", Cond.methodLink RX2 24 yX3_costOf]
def wsX6_mean_r2 : List Cond := [Cond.instanceMethod yX3_costOf, Cond.selects RX3 yX3_costOf yX3_costOf, Cond.code yX3_costOf cX3_costOf 3 (some .int), Cond.fieldLink RX3 24 "RentOrBuy$Plans" "rents" "[I", Cond.fieldLink RX3 20 "RentOrBuy$Plans" "taken" "LRentOrBuy$Flat;", Cond.methodLink RX6 61 yX3_knownBy, Cond.instanceMethod yX3_knownBy, Cond.selects RX3 yX3_knownBy yX3_knownBy, Cond.code yX3_knownBy cX3_knownBy 2 (some .int), Cond.methodLink RX3 39 Lib.Math.min.name, Cond.static Lib.Math.min.name, Cond.initialized "java/lang/Math", Cond.code Lib.Math.min.name Lib.Math.min.code 2 (some .int), Cond.methodLink RX6 123 yX6_leastForm, Cond.static yX6_leastForm, Cond.code yX6_leastForm cX6_leastForm 5 (some .long), Cond.methodLink RX6 173 yX6_commonDivisor, Cond.static yX6_commonDivisor, Cond.code yX6_commonDivisor cX6_commonDivisor 11 (some .long), Cond.methodLink RX6 177 yX6_roundedDown, Cond.static yX6_roundedDown, Cond.code yX6_roundedDown cX6_roundedDown 4 (some .long)]
def wsX6_mean : List Cond := .code yX6_mean cX6_mean 4 (some .long) :: ((wsX6_mean_r1 ++ wsX6_mean_r2) ++ wsX60 ++ wsX20 ++ wsX30 ++ wsX00 ++ wsX10 ++ wsX40)
def wsX6_bound_r1 : List Cond := [Cond.fieldLink RX6 19 "RentOrBuy" "lots" "LRentOrBuy$Lots;", Cond.fieldLink RX6 10 "RentOrBuy" "plans" "LRentOrBuy$Plans;", Cond.methodLink RX6 34 yX6_isWithin, Cond.static yX6_isWithin, Cond.initialized RX6, Cond.code yX6_isWithin cX6_isWithin 3 (some .boolean), Cond.methodLink RX6 113 yX2_total, Cond.static yX2_total, Cond.initialized RX2, Cond.code yX2_total cX2_total 6 (some .int), Cond.methodLink RX6 127 yX2_upperBound, Cond.instanceMethod yX2_upperBound, Cond.selects RX2 yX2_upperBound yX2_upperBound, Cond.code yX2_upperBound cX2_upperBound 8 (some .long), Cond.constantLong RX2 32 (1000), Cond.methodLink RX2 42 Lib.MathLoose.max_long.x, Cond.static Lib.MathLoose.max_long.x, Cond.initialized "java/lang/Math", Cond.code Lib.MathLoose.max_long.x Lib.MathLoose.max_long.code 4 (some .long), Cond.methodLink RX2 28 yX2_costsBy, Cond.instanceMethod yX2_costsBy, Cond.selects RX2 yX2_costsBy yX2_costsBy, Cond.code yX2_costsBy cX2_costsBy 6 (some .long), Cond.fieldLink RX2 9 "RentOrBuy$Lots" "ofPlans" "[I"]
def wsX6_bound_r2 : List Cond := [Cond.methodLink RX2 24 yX3_costOf, Cond.instanceMethod yX3_costOf, Cond.selects RX3 yX3_costOf yX3_costOf, Cond.initialized RX3, Cond.code yX3_costOf cX3_costOf 3 (some .int), Cond.fieldLink RX3 24 "RentOrBuy$Plans" "rents" "[I", Cond.fieldLink RX3 20 "RentOrBuy$Plans" "taken" "LRentOrBuy$Flat;", Cond.methodLink RX2 34 yX3_knownBy, Cond.instanceMethod yX3_knownBy, Cond.selects RX3 yX3_knownBy yX3_knownBy, Cond.code yX3_knownBy cX3_knownBy 2 (some .int), Cond.methodLink RX3 39 Lib.Math.min.name, Cond.static Lib.Math.min.name, Cond.code Lib.Math.min.name Lib.Math.min.code 2 (some .int), Cond.static yX6_roundedUp, Cond.code yX6_roundedUp cX6_roundedUp 4 (some .long), Cond.methodLink RX6 177 yX6_roundedDown, Cond.static yX6_roundedDown, Cond.code yX6_roundedDown cX6_roundedDown 4 (some .long), Cond.methodLink RX6 130 yX2_lowerBound, Cond.instanceMethod yX2_lowerBound, Cond.selects RX2 yX2_lowerBound yX2_lowerBound, Cond.code yX2_lowerBound cX2_lowerBound 6 (some .long), Cond.methodLink RX2 50 Lib.MathLoose.min_long.x]
def wsX6_bound_r3 : List Cond := [Cond.static Lib.MathLoose.min_long.x, Cond.code Lib.MathLoose.min_long.x Lib.MathLoose.min_long.code 4 (some .long), Cond.methodLink RX2 47 yX2_millionthsOf, Cond.instanceMethod yX2_millionthsOf, Cond.selects RX2 yX2_millionthsOf yX2_millionthsOf, Cond.code yX2_millionthsOf cX2_millionthsOf 6 (some .long), Cond.fieldLink RX2 15 "RentOrBuy$Lots" "ofEnds" "[I", Cond.constantLong RX2 56 (1000000)]
def wsX6_bound : List Cond := .code yX6_bound cX6_bound 3 (some .int) :: ((wsX6_bound_r1 ++ (wsX6_bound_r2 ++ wsX6_bound_r3)) ++ wsX60 ++ wsX20 ++ wsX30 ++ wsX00 ++ wsX10 ++ wsX40)
def wsX6_guess_r1 : List Cond := [Cond.fieldLink RX6 10 "RentOrBuy" "plans" "LRentOrBuy$Plans;", Cond.methodLink RX6 83 yX3_isEnd, Cond.instanceMethod yX3_isEnd, Cond.selects RX3 yX3_isEnd yX3_isEnd, Cond.initialized RX3, Cond.code yX3_isEnd cX3_isEnd 2 (some .boolean), Cond.fieldLink RX3 9 "RentOrBuy$Plans" "days" "I", Cond.static yX6_isWithin, Cond.initialized RX6, Cond.code yX6_isWithin cX6_isWithin 3 (some .boolean), Cond.methodLink RX6 34 yX6_isWithin, Cond.methodLink RX6 133 yX3_planByGuess, Cond.instanceMethod yX3_planByGuess, Cond.selects RX3 yX3_planByGuess yX3_planByGuess, Cond.code yX3_planByGuess cX3_planByGuess 4 (some .int), Cond.fieldLink RX3 24 "RentOrBuy$Plans" "rents" "[I", Cond.constantLong RX3 66 (10), Cond.methodLink RX3 75 Lib.MathLoose.min_long.x, Cond.static Lib.MathLoose.min_long.x, Cond.initialized "java/lang/Math", Cond.code Lib.MathLoose.min_long.x Lib.MathLoose.min_long.code 4 (some .long), Cond.methodLink RX3 62 yX3_surePlan, Cond.instanceMethod yX3_surePlan, Cond.selects RX3 yX3_surePlan yX3_surePlan]
def wsX6_guess_r2 : List Cond := [Cond.code yX3_surePlan cX3_surePlan 5 (some .int), Cond.methodLink RX3 59 yX3_worstEnd, Cond.instanceMethod yX3_worstEnd, Cond.selects RX3 yX3_worstEnd yX3_worstEnd, Cond.code yX3_worstEnd cX3_worstEnd 4 (some .int), Cond.methodLink RX3 55 yX3_isRatioGreater, Cond.instanceMethod yX3_isRatioGreater, Cond.selects RX3 yX3_isRatioGreater yX3_isRatioGreater, Cond.code yX3_isRatioGreater cX3_isRatioGreater 5 (some .boolean), Cond.methodLink RX3 45 yX3_costOf, Cond.instanceMethod yX3_costOf, Cond.selects RX3 yX3_costOf yX3_costOf, Cond.code yX3_costOf cX3_costOf 3 (some .int), Cond.fieldLink RX3 20 "RentOrBuy$Plans" "taken" "LRentOrBuy$Flat;", Cond.methodLink RX3 48 yX3_knownBy, Cond.instanceMethod yX3_knownBy, Cond.selects RX3 yX3_knownBy yX3_knownBy, Cond.code yX3_knownBy cX3_knownBy 2 (some .int), Cond.methodLink RX3 39 Lib.Math.min.name, Cond.static Lib.Math.min.name, Cond.code Lib.Math.min.name Lib.Math.min.code 2 (some .int), Cond.static yX6_roundedUp, Cond.code yX6_roundedUp cX6_roundedUp 4 (some .long), Cond.methodLink RX6 177 yX6_roundedDown]
def wsX6_guess_r3 : List Cond := [Cond.static yX6_roundedDown, Cond.code yX6_roundedDown cX6_roundedDown 4 (some .long)]
def wsX6_guess : List Cond := .code yX6_guess cX6_guess 3 (some .int) :: ((wsX6_guess_r1 ++ (wsX6_guess_r2 ++ wsX6_guess_r3)) ++ wsX60 ++ wsX30 ++ wsX00 ++ wsX10 ++ wsX40)
def wsX6_trust_r1 : List Cond := [Cond.fieldLink RX6 10 "RentOrBuy" "plans" "LRentOrBuy$Plans;", Cond.methodLink RX6 83 yX3_isEnd, Cond.instanceMethod yX3_isEnd, Cond.selects RX3 yX3_isEnd yX3_isEnd, Cond.initialized RX3, Cond.code yX3_isEnd cX3_isEnd 2 (some .boolean), Cond.fieldLink RX3 9 "RentOrBuy$Plans" "days" "I", Cond.static yX6_isWithin, Cond.initialized RX6, Cond.code yX6_isWithin cX6_isWithin 3 (some .boolean), Cond.methodLink RX6 34 yX6_isWithin, Cond.methodLink RX6 133 yX3_planByGuess, Cond.instanceMethod yX3_planByGuess, Cond.selects RX3 yX3_planByGuess yX3_planByGuess, Cond.code yX3_planByGuess cX3_planByGuess 4 (some .int), Cond.fieldLink RX3 24 "RentOrBuy$Plans" "rents" "[I", Cond.constantLong RX3 66 (10), Cond.methodLink RX3 75 Lib.MathLoose.min_long.x, Cond.static Lib.MathLoose.min_long.x, Cond.initialized "java/lang/Math", Cond.code Lib.MathLoose.min_long.x Lib.MathLoose.min_long.code 4 (some .long), Cond.methodLink RX3 62 yX3_surePlan, Cond.instanceMethod yX3_surePlan, Cond.selects RX3 yX3_surePlan yX3_surePlan]
def wsX6_trust_r2 : List Cond := [Cond.code yX3_surePlan cX3_surePlan 5 (some .int), Cond.methodLink RX3 59 yX3_worstEnd, Cond.instanceMethod yX3_worstEnd, Cond.selects RX3 yX3_worstEnd yX3_worstEnd, Cond.code yX3_worstEnd cX3_worstEnd 4 (some .int), Cond.methodLink RX3 55 yX3_isRatioGreater, Cond.instanceMethod yX3_isRatioGreater, Cond.selects RX3 yX3_isRatioGreater yX3_isRatioGreater, Cond.code yX3_isRatioGreater cX3_isRatioGreater 5 (some .boolean), Cond.methodLink RX3 45 yX3_costOf, Cond.instanceMethod yX3_costOf, Cond.selects RX3 yX3_costOf yX3_costOf, Cond.code yX3_costOf cX3_costOf 3 (some .int), Cond.fieldLink RX3 20 "RentOrBuy$Plans" "taken" "LRentOrBuy$Flat;", Cond.methodLink RX3 48 yX3_knownBy, Cond.instanceMethod yX3_knownBy, Cond.selects RX3 yX3_knownBy yX3_knownBy, Cond.code yX3_knownBy cX3_knownBy 2 (some .int), Cond.methodLink RX3 39 Lib.Math.min.name, Cond.static Lib.Math.min.name, Cond.code Lib.Math.min.name Lib.Math.min.code 2 (some .int), Cond.static yX6_roundedUp, Cond.code yX6_roundedUp cX6_roundedUp 4 (some .long), Cond.methodLink RX6 177 yX6_roundedDown]
def wsX6_trust_r3 : List Cond := [Cond.static yX6_roundedDown, Cond.code yX6_roundedDown cX6_roundedDown 4 (some .long), Cond.methodLink RX6 90 yX3_worstEnd, Cond.methodLink RX6 93 yX3_ratioPart, Cond.instanceMethod yX3_ratioPart, Cond.selects RX3 yX3_ratioPart yX3_ratioPart, Cond.code yX3_ratioPart cX3_ratioPart 4 (some .int), Cond.static yX6_leastForm, Cond.code yX6_leastForm cX6_leastForm 5 (some .long), Cond.methodLink RX6 173 yX6_commonDivisor, Cond.static yX6_commonDivisor, Cond.code yX6_commonDivisor cX6_commonDivisor 11 (some .long)]
def wsX6_trust : List Cond := .code yX6_trust cX6_trust 6 (some .int) :: ((wsX6_trust_r1 ++ (wsX6_trust_r2 ++ wsX6_trust_r3)) ++ wsX60 ++ wsX30 ++ wsX00 ++ wsX10 ++ wsX40)
def wsX6_list_r1 : List Cond := [Cond.fieldLink RX6 26 "RentOrBuy" "shelf" "LRentOrBuy$Shelf;", Cond.methodLink RX6 34 yX6_isWithin, Cond.static yX6_isWithin, Cond.initialized RX6, Cond.code yX6_isWithin cX6_isWithin 3 (some .boolean), Cond.methodLink RX6 139 yX5_restart, Cond.instanceMethod yX5_restart, Cond.selects RX5 yX5_restart yX5_restart, Cond.initialized RX5, Cond.code yX5_restart cX5_restart 2 none, Cond.fieldLink RX5 21 "RentOrBuy$Shelf" "things" "I", Cond.fieldLink RX5 25 "RentOrBuy$Shelf" "requests" "I", Cond.methodLink RX5 28 yX5_findOrders, Cond.instanceMethod yX5_findOrders, Cond.selects RX5 yX5_findOrders yX5_findOrders, Cond.code yX5_findOrders cX5_findOrders 2 none, Cond.fieldLink RX5 31 "RentOrBuy$Shelf" "orderCount" "I", Cond.fieldLink RX5 15 "RentOrBuy$Shelf" "orders" "[I", Cond.methodLink RX5 34 yX5_isOrder, Cond.instanceMethod yX5_isOrder, Cond.selects RX5 yX5_isOrder yX5_isOrder, Cond.code yX5_isOrder cX5_isOrder 4 (some .boolean), Cond.methodLink RX5 38 yX5_thingAt, Cond.static yX5_thingAt]
def wsX6_list_r2 : List Cond := [Cond.code yX5_thingAt cX5_thingAt 2 (some .int)]
def wsX6_list : List Cond := .code yX6_list cX6_list 3 (some .int) :: ((wsX6_list_r1 ++ wsX6_list_r2) ++ wsX60 ++ wsX50)
def wsX6_request : List Cond := .code yX6_request cX6_request 2 (some .int) :: ([.fieldLink RX6 26 "RentOrBuy" "shelf" "LRentOrBuy$Shelf;", .methodLink RX6 34 yX6_isWithin, .static yX6_isWithin, .initialized RX6, .code yX6_isWithin cX6_isWithin 3 (some .boolean)] ++ wsX60 ++ wsX50)
def wsX6_drop : List Cond := .code yX6_drop cX6_drop 1 (some .int) :: ([.fieldLink RX6 26 "RentOrBuy" "shelf" "LRentOrBuy$Shelf;"] ++ wsX60 ++ wsX50)
def wsX6_serve_r1 : List Cond := [Cond.fieldLink RX6 26 "RentOrBuy" "shelf" "LRentOrBuy$Shelf;", Cond.methodLink RX6 149 yX5_frontCost, Cond.instanceMethod yX5_frontCost, Cond.selects RX5 yX5_frontCost yX5_frontCost, Cond.initialized RX5, Cond.code yX5_frontCost cX5_frontCost 4 (some .int), Cond.fieldLink RX5 25 "RentOrBuy$Shelf" "requests" "I", Cond.fieldLink RX5 9 "RentOrBuy$Shelf" "asked" "[I", Cond.methodLink RX5 48 yX5_firstOrder, Cond.instanceMethod yX5_firstOrder, Cond.selects RX5 yX5_firstOrder yX5_firstOrder, Cond.code yX5_firstOrder cX5_firstOrder 3 (some .int), Cond.fieldLink RX5 21 "RentOrBuy$Shelf" "things" "I", Cond.methodLink RX5 42 yX5_placeOf, Cond.instanceMethod yX5_placeOf, Cond.selects RX5 yX5_placeOf yX5_placeOf, Cond.code yX5_placeOf cX5_placeOf 4 (some .int), Cond.methodLink RX5 38 yX5_thingAt, Cond.static yX5_thingAt, Cond.code yX5_thingAt cX5_thingAt 2 (some .int), Cond.methodLink RX5 52 yX5_movedToFront, Cond.instanceMethod yX5_movedToFront, Cond.selects RX5 yX5_movedToFront yX5_movedToFront, Cond.code yX5_movedToFront cX5_movedToFront 5 (some .int)]
def wsX6_serve_r2 : List Cond := [Cond.methodLink RX5 45 yX5_exchanged, Cond.static yX5_exchanged, Cond.code yX5_exchanged cX5_exchanged 3 (some .int), Cond.methodLink RX6 152 yX5_firstOrder, Cond.methodLink RX6 155 yX5_stayCost, Cond.instanceMethod yX5_stayCost, Cond.selects RX5 yX5_stayCost yX5_stayCost, Cond.code yX5_stayCost cX5_stayCost 4 (some .int), Cond.methodLink RX6 158 yX5_bestStayCost, Cond.instanceMethod yX5_bestStayCost, Cond.selects RX5 yX5_bestStayCost yX5_bestStayCost, Cond.code yX5_bestStayCost cX5_bestStayCost 3 (some .int), Cond.constant RX5 55 (1000000), Cond.fieldLink RX5 31 "RentOrBuy$Shelf" "orderCount" "I", Cond.fieldLink RX5 15 "RentOrBuy$Shelf" "orders" "[I", Cond.methodLink RX5 60 Lib.Math.min.name, Cond.static Lib.Math.min.name, Cond.initialized "java/lang/Math", Cond.code Lib.Math.min.name Lib.Math.min.code 2 (some .int), Cond.methodLink RX5 56 yX5_stayCost, Cond.methodLink RX6 161 yX5_bestCost, Cond.instanceMethod yX5_bestCost, Cond.selects RX5 yX5_bestCost yX5_bestCost, Cond.code yX5_bestCost cX5_bestCost 3 (some .int)]
def wsX6_serve_r3 : List Cond := [Cond.fieldLink RX5 18 "RentOrBuy$Shelf" "least" "[I", Cond.methodLink RX5 65 yX5_exchangeNeighbours, Cond.instanceMethod yX5_exchangeNeighbours, Cond.selects RX5 yX5_exchangeNeighbours yX5_exchangeNeighbours, Cond.code yX5_exchangeNeighbours cX5_exchangeNeighbours 4 none, Cond.methodLink RX5 75 yX5_exchangeIn, Cond.instanceMethod yX5_exchangeIn, Cond.selects RX5 yX5_exchangeIn yX5_exchangeIn, Cond.code yX5_exchangeIn cX5_exchangeIn 5 (some .boolean), Cond.methodLink RX5 68 yX5_payPlaces, Cond.instanceMethod yX5_payPlaces, Cond.selects RX5 yX5_payPlaces yX5_payPlaces, Cond.code yX5_payPlaces cX5_payPlaces 3 none, Cond.methodLink RX5 72 yX5_moveAhead, Cond.instanceMethod yX5_moveAhead, Cond.selects RX5 yX5_moveAhead yX5_moveAhead, Cond.code yX5_moveAhead cX5_moveAhead 5 none]
def wsX6_serve : List Cond := .code yX6_serve cX6_serve 2 (some .int) :: ((wsX6_serve_r1 ++ (wsX6_serve_r2 ++ wsX6_serve_r3)) ++ wsX60 ++ wsX50)
def wsX6_at_r1 : List Cond := [Cond.fieldLink RX6 26 "RentOrBuy" "shelf" "LRentOrBuy$Shelf;", Cond.methodLink RX6 34 yX6_isWithin, Cond.static yX6_isWithin, Cond.initialized RX6, Cond.code yX6_isWithin cX6_isWithin 3 (some .boolean), Cond.methodLink RX6 164 yX5_frontOrder, Cond.instanceMethod yX5_frontOrder, Cond.selects RX5 yX5_frontOrder yX5_frontOrder, Cond.initialized RX5, Cond.code yX5_frontOrder cX5_frontOrder 3 (some .int), Cond.fieldLink RX5 25 "RentOrBuy$Shelf" "requests" "I", Cond.fieldLink RX5 9 "RentOrBuy$Shelf" "asked" "[I", Cond.methodLink RX5 48 yX5_firstOrder, Cond.instanceMethod yX5_firstOrder, Cond.selects RX5 yX5_firstOrder yX5_firstOrder, Cond.code yX5_firstOrder cX5_firstOrder 3 (some .int), Cond.fieldLink RX5 21 "RentOrBuy$Shelf" "things" "I", Cond.methodLink RX5 52 yX5_movedToFront, Cond.instanceMethod yX5_movedToFront, Cond.selects RX5 yX5_movedToFront yX5_movedToFront, Cond.code yX5_movedToFront cX5_movedToFront 5 (some .int), Cond.methodLink RX5 42 yX5_placeOf, Cond.instanceMethod yX5_placeOf, Cond.selects RX5 yX5_placeOf yX5_placeOf]
def wsX6_at_r2 : List Cond := [Cond.code yX5_placeOf cX5_placeOf 4 (some .int), Cond.methodLink RX5 38 yX5_thingAt, Cond.static yX5_thingAt, Cond.code yX5_thingAt cX5_thingAt 2 (some .int), Cond.methodLink RX5 45 yX5_exchanged, Cond.static yX5_exchanged, Cond.code yX5_exchanged cX5_exchanged 3 (some .int), Cond.methodLink RX6 167 yX5_thingAt]
def wsX6_at : List Cond := .code yX6_at cX6_at 2 (some .int) :: ((wsX6_at_r1 ++ wsX6_at_r2) ++ wsX60 ++ wsX50)
def wsX6_count : List Cond := .code yX6_count cX6_count 2 (some .int) :: ([.fieldLink RX6 10 "RentOrBuy" "plans" "LRentOrBuy$Plans;", .fieldLink RX6 26 "RentOrBuy" "shelf" "LRentOrBuy$Shelf;", .methodLink RX6 170 ⟨"RentOrBuy$Flat", "kindNumber", "()I"⟩, .sameMethod "RentOrBuy$Flat" "RentOrBuy$Flat" "kindNumber" "()I", .instanceMethod ⟨"RentOrBuy$Flat", "kindNumber", "()I"⟩, .selects RX0 ⟨"RentOrBuy$Flat", "kindNumber", "()I"⟩ yX0_kindNumber, .instanceMethod yX0_kindNumber, .initialized RX0, .code yX0_kindNumber cX0_kindNumber 1 (some .int), .code yX1_kindNumber cX1_kindNumber 1 (some .int), .methodLink RX6 170 yX1_kindNumber, .instanceMethod yX1_kindNumber, .selects RX1 yX1_kindNumber yX1_kindNumber, .initialized RX1, .selects RX4 ⟨"RentOrBuy$Flat", "kindNumber", "()I"⟩ yX4_kindNumber, .instanceMethod yX4_kindNumber, .initialized RX4, .code yX4_kindNumber cX4_kindNumber 1 (some .int)] ++ wsX60 ++ wsX30 ++ wsX50)
def wsX6_trace : List Cond := .code yX6_trace cX6_trace 1 (some .long) :: ([.fieldLink RX6 30 "RentOrBuy" "traced" "J"] ++ wsX60)
def wsX7_init : List Cond := .code yX7_init cX7_init 1 none :: ([.methodLink RX7 1 objectInit, .instanceMethod objectInit, .code objectInit ⟨#[0xb1]⟩ 1 none, .fieldLink RX7 7 "RentOrBuyModel" "rent" "I", .fieldLink RX7 13 "RentOrBuyModel" "cap" "I", .fieldLink RX7 16 "RentOrBuyModel" "price" "I", .fieldLink RX7 19 "RentOrBuyModel" "ends" "I", .arrayClass .int, .fieldLink RX7 22 "RentOrBuyModel" "planShare" "[I", .fieldLink RX7 26 "RentOrBuyModel" "endShare" "[I", .fieldLink RX7 29 "RentOrBuyModel" "things" "I", .fieldLink RX7 32 "RentOrBuyModel" "request" "[I", .fieldLink RX7 35 "RentOrBuyModel" "row" "[I", .fieldLink RX7 38 "RentOrBuyModel" "order" "[I", .fieldLink RX7 41 "RentOrBuyModel" "least" "[I", .fieldLink RX7 44 "RentOrBuyModel" "then" "[I", .fieldLink RX7 47 "RentOrBuyModel" "far" "[I", .fieldLink RX7 50 "RentOrBuyModel" "requests" "I"] ++ wsX70)
def wsX7_in : List Cond := .code yX7_in cX7_in 3 (some .boolean) :: ([])
def wsX7_rentOf : List Cond := .code yX7_rentOf cX7_rentOf 3 (some .int) :: ([.fieldLink RX7 7 "RentOrBuyModel" "rent" "I", .fieldLink RX7 53 "RentOrBuyModel" "kind" "I", .fieldLink RX7 56 "RentOrBuyModel" "rise" "I", .fieldLink RX7 13 "RentOrBuyModel" "cap" "I"] ++ wsX70)
def wsX7_rentsTo : List Cond := .code yX7_rentsTo cX7_rentsTo 4 (some .int) :: ([.methodLink RX7 59 yX7_rentOf, .instanceMethod yX7_rentOf, .selects RX7 yX7_rentOf yX7_rentOf, .initialized RX7, .code yX7_rentOf cX7_rentOf 3 (some .int), .fieldLink RX7 7 "RentOrBuyModel" "rent" "I", .fieldLink RX7 53 "RentOrBuyModel" "kind" "I", .fieldLink RX7 56 "RentOrBuyModel" "rise" "I", .fieldLink RX7 13 "RentOrBuyModel" "cap" "I"] ++ wsX70)
def wsX7_costOf : List Cond := .code yX7_costOf cX7_costOf 3 (some .int) :: ([.fieldLink RX7 16 "RentOrBuyModel" "price" "I", .methodLink RX7 63 yX7_rentsTo, .instanceMethod yX7_rentsTo, .selects RX7 yX7_rentsTo yX7_rentsTo, .initialized RX7, .code yX7_rentsTo cX7_rentsTo 4 (some .int), .methodLink RX7 59 yX7_rentOf, .instanceMethod yX7_rentOf, .selects RX7 yX7_rentOf yX7_rentOf, .code yX7_rentOf cX7_rentOf 3 (some .int), .fieldLink RX7 7 "RentOrBuyModel" "rent" "I", .fieldLink RX7 53 "RentOrBuyModel" "kind" "I", .fieldLink RX7 56 "RentOrBuyModel" "rise" "I", .fieldLink RX7 13 "RentOrBuyModel" "cap" "I"] ++ wsX70)
def wsX7_knownBy : List Cond := .code yX7_knownBy cX7_knownBy 3 (some .int) :: ([.fieldLink RX7 16 "RentOrBuyModel" "price" "I", .methodLink RX7 63 yX7_rentsTo, .instanceMethod yX7_rentsTo, .selects RX7 yX7_rentsTo yX7_rentsTo, .initialized RX7, .code yX7_rentsTo cX7_rentsTo 4 (some .int), .methodLink RX7 59 yX7_rentOf, .instanceMethod yX7_rentOf, .selects RX7 yX7_rentOf yX7_rentOf, .code yX7_rentOf cX7_rentOf 3 (some .int), .fieldLink RX7 7 "RentOrBuyModel" "rent" "I", .fieldLink RX7 53 "RentOrBuyModel" "kind" "I", .fieldLink RX7 56 "RentOrBuyModel" "rise" "I", .fieldLink RX7 13 "RentOrBuyModel" "cap" "I"] ++ wsX70)
def wsX7_offer : List Cond := .code yX7_offer cX7_offer 6 (some .int) :: ([.fieldLink RX7 53 "RentOrBuyModel" "kind" "I", .fieldLink RX7 7 "RentOrBuyModel" "rent" "I", .fieldLink RX7 56 "RentOrBuyModel" "rise" "I", .fieldLink RX7 13 "RentOrBuyModel" "cap" "I", .fieldLink RX7 16 "RentOrBuyModel" "price" "I", .fieldLink RX7 19 "RentOrBuyModel" "ends" "I", .methodLink RX7 66 yX7_in, .static yX7_in, .initialized RX7, .code yX7_in cX7_in 3 (some .boolean), .methodLink RX7 70 yX7_knownBy, .instanceMethod yX7_knownBy, .selects RX7 yX7_knownBy yX7_knownBy, .code yX7_knownBy cX7_knownBy 3 (some .int), .methodLink RX7 63 yX7_rentsTo, .instanceMethod yX7_rentsTo, .selects RX7 yX7_rentsTo yX7_rentsTo, .code yX7_rentsTo cX7_rentsTo 4 (some .int), .methodLink RX7 59 yX7_rentOf, .instanceMethod yX7_rentOf, .selects RX7 yX7_rentOf yX7_rentOf, .code yX7_rentOf cX7_rentOf 3 (some .int)] ++ wsX70)
def wsX7_ends : List Cond := .code yX7_ends cX7_ends 4 (some .int) :: ([.fieldLink RX7 19 "RentOrBuyModel" "ends" "I", .fieldLink RX7 22 "RentOrBuyModel" "planShare" "[I", .fieldLink RX7 26 "RentOrBuyModel" "endShare" "[I", .methodLink RX7 66 yX7_in, .static yX7_in, .initialized RX7, .code yX7_in cX7_in 3 (some .boolean)] ++ wsX70)
def wsX7_rent : List Cond := .code yX7_rent cX7_rent 2 (some .int) :: ([.fieldLink RX7 73 "RentOrBuyModel" "trace" "J", .fieldLink RX7 53 "RentOrBuyModel" "kind" "I", .constantLong RX7 77 (11), .constantLong RX7 79 (111), .methodLink RX7 66 yX7_in, .static yX7_in, .initialized RX7, .code yX7_in cX7_in 3 (some .boolean), .methodLink RX7 59 yX7_rentOf, .instanceMethod yX7_rentOf, .selects RX7 yX7_rentOf yX7_rentOf, .code yX7_rentOf cX7_rentOf 3 (some .int), .fieldLink RX7 7 "RentOrBuyModel" "rent" "I", .fieldLink RX7 56 "RentOrBuyModel" "rise" "I", .fieldLink RX7 13 "RentOrBuyModel" "cap" "I"] ++ wsX70)
def wsX7_isPlan : List Cond := .code yX7_isPlan cX7_isPlan 2 (some .boolean) :: ([.fieldLink RX7 19 "RentOrBuyModel" "ends" "I", .methodLink RX7 66 yX7_in, .static yX7_in, .initialized RX7, .code yX7_in cX7_in 3 (some .boolean)] ++ wsX70)
def wsX7_isEnd : List Cond := .code yX7_isEnd cX7_isEnd 2 (some .boolean) :: ([.fieldLink RX7 19 "RentOrBuyModel" "ends" "I", .methodLink RX7 66 yX7_in, .static yX7_in, .initialized RX7, .code yX7_in cX7_in 3 (some .boolean)] ++ wsX70)
def wsX7_cost_r1 : List Cond := [Cond.methodLink RX7 81 yX7_isPlan, Cond.instanceMethod yX7_isPlan, Cond.selects RX7 yX7_isPlan yX7_isPlan, Cond.initialized RX7, Cond.code yX7_isPlan cX7_isPlan 2 (some .boolean), Cond.fieldLink RX7 19 "RentOrBuyModel" "ends" "I", Cond.methodLink RX7 66 yX7_in, Cond.static yX7_in, Cond.code yX7_in cX7_in 3 (some .boolean), Cond.methodLink RX7 85 yX7_isEnd, Cond.instanceMethod yX7_isEnd, Cond.selects RX7 yX7_isEnd yX7_isEnd, Cond.code yX7_isEnd cX7_isEnd 2 (some .boolean), Cond.methodLink RX7 88 yX7_costOf, Cond.instanceMethod yX7_costOf, Cond.selects RX7 yX7_costOf yX7_costOf, Cond.code yX7_costOf cX7_costOf 3 (some .int), Cond.fieldLink RX7 16 "RentOrBuyModel" "price" "I", Cond.methodLink RX7 63 yX7_rentsTo, Cond.instanceMethod yX7_rentsTo, Cond.selects RX7 yX7_rentsTo yX7_rentsTo, Cond.code yX7_rentsTo cX7_rentsTo 4 (some .int), Cond.methodLink RX7 59 yX7_rentOf, Cond.instanceMethod yX7_rentOf]
def wsX7_cost_r2 : List Cond := [Cond.selects RX7 yX7_rentOf yX7_rentOf, Cond.code yX7_rentOf cX7_rentOf 3 (some .int), Cond.fieldLink RX7 7 "RentOrBuyModel" "rent" "I", Cond.fieldLink RX7 53 "RentOrBuyModel" "kind" "I", Cond.fieldLink RX7 56 "RentOrBuyModel" "rise" "I", Cond.fieldLink RX7 13 "RentOrBuyModel" "cap" "I"]
def wsX7_cost : List Cond := .code yX7_cost cX7_cost 3 (some .int) :: ((wsX7_cost_r1 ++ wsX7_cost_r2) ++ wsX70)
def wsX7_known_r1 : List Cond := [Cond.methodLink RX7 85 yX7_isEnd, Cond.instanceMethod yX7_isEnd, Cond.selects RX7 yX7_isEnd yX7_isEnd, Cond.initialized RX7, Cond.code yX7_isEnd cX7_isEnd 2 (some .boolean), Cond.fieldLink RX7 19 "RentOrBuyModel" "ends" "I", Cond.methodLink RX7 66 yX7_in, Cond.static yX7_in, Cond.code yX7_in cX7_in 3 (some .boolean), Cond.methodLink RX7 70 yX7_knownBy, Cond.instanceMethod yX7_knownBy, Cond.selects RX7 yX7_knownBy yX7_knownBy, Cond.code yX7_knownBy cX7_knownBy 3 (some .int), Cond.fieldLink RX7 16 "RentOrBuyModel" "price" "I", Cond.methodLink RX7 63 yX7_rentsTo, Cond.instanceMethod yX7_rentsTo, Cond.selects RX7 yX7_rentsTo yX7_rentsTo, Cond.code yX7_rentsTo cX7_rentsTo 4 (some .int), Cond.methodLink RX7 59 yX7_rentOf, Cond.instanceMethod yX7_rentOf, Cond.selects RX7 yX7_rentOf yX7_rentOf, Cond.code yX7_rentOf cX7_rentOf 3 (some .int), Cond.fieldLink RX7 7 "RentOrBuyModel" "rent" "I", Cond.fieldLink RX7 53 "RentOrBuyModel" "kind" "I"]
def wsX7_known_r2 : List Cond := [Cond.fieldLink RX7 56 "RentOrBuyModel" "rise" "I", Cond.fieldLink RX7 13 "RentOrBuyModel" "cap" "I"]
def wsX7_known : List Cond := .code yX7_known cX7_known 2 (some .int) :: ((wsX7_known_r1 ++ wsX7_known_r2) ++ wsX70)
def wsX7_worstEnd : List Cond := .code yX7_worstEnd cX7_worstEnd 4 (some .int) :: ([.fieldLink RX7 19 "RentOrBuyModel" "ends" "I", .methodLink RX7 88 yX7_costOf, .instanceMethod yX7_costOf, .selects RX7 yX7_costOf yX7_costOf, .initialized RX7, .code yX7_costOf cX7_costOf 3 (some .int), .fieldLink RX7 16 "RentOrBuyModel" "price" "I", .methodLink RX7 63 yX7_rentsTo, .instanceMethod yX7_rentsTo, .selects RX7 yX7_rentsTo yX7_rentsTo, .code yX7_rentsTo cX7_rentsTo 4 (some .int), .methodLink RX7 59 yX7_rentOf, .instanceMethod yX7_rentOf, .selects RX7 yX7_rentOf yX7_rentOf, .code yX7_rentOf cX7_rentOf 3 (some .int), .fieldLink RX7 7 "RentOrBuyModel" "rent" "I", .fieldLink RX7 53 "RentOrBuyModel" "kind" "I", .fieldLink RX7 56 "RentOrBuyModel" "rise" "I", .fieldLink RX7 13 "RentOrBuyModel" "cap" "I", .methodLink RX7 70 yX7_knownBy, .instanceMethod yX7_knownBy, .selects RX7 yX7_knownBy yX7_knownBy, .code yX7_knownBy cX7_knownBy 3 (some .int)] ++ wsX70)
def wsX7_common : List Cond := .code yX7_common cX7_common 10 (some .long) :: ([])
def wsX7_ratio_r1 : List Cond := [Cond.methodLink RX7 81 yX7_isPlan, Cond.instanceMethod yX7_isPlan, Cond.selects RX7 yX7_isPlan yX7_isPlan, Cond.initialized RX7, Cond.code yX7_isPlan cX7_isPlan 2 (some .boolean), Cond.fieldLink RX7 19 "RentOrBuyModel" "ends" "I", Cond.methodLink RX7 66 yX7_in, Cond.static yX7_in, Cond.code yX7_in cX7_in 3 (some .boolean), Cond.methodLink RX7 85 yX7_isEnd, Cond.instanceMethod yX7_isEnd, Cond.selects RX7 yX7_isEnd yX7_isEnd, Cond.code yX7_isEnd cX7_isEnd 2 (some .boolean), Cond.methodLink RX7 92 yX7_worstEnd, Cond.instanceMethod yX7_worstEnd, Cond.selects RX7 yX7_worstEnd yX7_worstEnd, Cond.code yX7_worstEnd cX7_worstEnd 4 (some .int), Cond.methodLink RX7 88 yX7_costOf, Cond.instanceMethod yX7_costOf, Cond.selects RX7 yX7_costOf yX7_costOf, Cond.code yX7_costOf cX7_costOf 3 (some .int), Cond.fieldLink RX7 16 "RentOrBuyModel" "price" "I", Cond.methodLink RX7 63 yX7_rentsTo, Cond.instanceMethod yX7_rentsTo]
def wsX7_ratio_r2 : List Cond := [Cond.selects RX7 yX7_rentsTo yX7_rentsTo, Cond.code yX7_rentsTo cX7_rentsTo 4 (some .int), Cond.methodLink RX7 59 yX7_rentOf, Cond.instanceMethod yX7_rentOf, Cond.selects RX7 yX7_rentOf yX7_rentOf, Cond.code yX7_rentOf cX7_rentOf 3 (some .int), Cond.fieldLink RX7 7 "RentOrBuyModel" "rent" "I", Cond.fieldLink RX7 53 "RentOrBuyModel" "kind" "I", Cond.fieldLink RX7 56 "RentOrBuyModel" "rise" "I", Cond.fieldLink RX7 13 "RentOrBuyModel" "cap" "I", Cond.methodLink RX7 70 yX7_knownBy, Cond.instanceMethod yX7_knownBy, Cond.selects RX7 yX7_knownBy yX7_knownBy, Cond.code yX7_knownBy cX7_knownBy 3 (some .int), Cond.methodLink RX7 95 yX7_common, Cond.static yX7_common, Cond.code yX7_common cX7_common 10 (some .long)]
def wsX7_ratio : List Cond := .code yX7_ratio cX7_ratio 8 (some .int) :: ((wsX7_ratio_r1 ++ wsX7_ratio_r2) ++ wsX70)
def wsX7_surePlan_r1 : List Cond := [Cond.fieldLink RX7 19 "RentOrBuyModel" "ends" "I", Cond.methodLink RX7 92 yX7_worstEnd, Cond.instanceMethod yX7_worstEnd, Cond.selects RX7 yX7_worstEnd yX7_worstEnd, Cond.initialized RX7, Cond.code yX7_worstEnd cX7_worstEnd 4 (some .int), Cond.methodLink RX7 88 yX7_costOf, Cond.instanceMethod yX7_costOf, Cond.selects RX7 yX7_costOf yX7_costOf, Cond.code yX7_costOf cX7_costOf 3 (some .int), Cond.fieldLink RX7 16 "RentOrBuyModel" "price" "I", Cond.methodLink RX7 63 yX7_rentsTo, Cond.instanceMethod yX7_rentsTo, Cond.selects RX7 yX7_rentsTo yX7_rentsTo, Cond.code yX7_rentsTo cX7_rentsTo 4 (some .int), Cond.methodLink RX7 59 yX7_rentOf, Cond.instanceMethod yX7_rentOf, Cond.selects RX7 yX7_rentOf yX7_rentOf, Cond.code yX7_rentOf cX7_rentOf 3 (some .int), Cond.fieldLink RX7 7 "RentOrBuyModel" "rent" "I", Cond.fieldLink RX7 53 "RentOrBuyModel" "kind" "I", Cond.fieldLink RX7 56 "RentOrBuyModel" "rise" "I", Cond.fieldLink RX7 13 "RentOrBuyModel" "cap" "I", Cond.methodLink RX7 70 yX7_knownBy]
def wsX7_surePlan_r2 : List Cond := [Cond.instanceMethod yX7_knownBy, Cond.selects RX7 yX7_knownBy yX7_knownBy, Cond.code yX7_knownBy cX7_knownBy 3 (some .int)]
def wsX7_surePlan : List Cond := .code yX7_surePlan cX7_surePlan 5 (some .int) :: ((wsX7_surePlan_r1 ++ wsX7_surePlan_r2) ++ wsX70)
def wsX7_sure_r1 : List Cond := [Cond.methodLink RX7 99 yX7_surePlan, Cond.instanceMethod yX7_surePlan, Cond.selects RX7 yX7_surePlan yX7_surePlan, Cond.initialized RX7, Cond.code yX7_surePlan cX7_surePlan 5 (some .int), Cond.fieldLink RX7 19 "RentOrBuyModel" "ends" "I", Cond.methodLink RX7 92 yX7_worstEnd, Cond.instanceMethod yX7_worstEnd, Cond.selects RX7 yX7_worstEnd yX7_worstEnd, Cond.code yX7_worstEnd cX7_worstEnd 4 (some .int), Cond.methodLink RX7 88 yX7_costOf, Cond.instanceMethod yX7_costOf, Cond.selects RX7 yX7_costOf yX7_costOf, Cond.code yX7_costOf cX7_costOf 3 (some .int), Cond.fieldLink RX7 16 "RentOrBuyModel" "price" "I", Cond.methodLink RX7 63 yX7_rentsTo, Cond.instanceMethod yX7_rentsTo, Cond.selects RX7 yX7_rentsTo yX7_rentsTo, Cond.code yX7_rentsTo cX7_rentsTo 4 (some .int), Cond.methodLink RX7 59 yX7_rentOf, Cond.instanceMethod yX7_rentOf, Cond.selects RX7 yX7_rentOf yX7_rentOf, Cond.code yX7_rentOf cX7_rentOf 3 (some .int), Cond.fieldLink RX7 7 "RentOrBuyModel" "rent" "I"]
def wsX7_sure_r2 : List Cond := [Cond.fieldLink RX7 53 "RentOrBuyModel" "kind" "I", Cond.fieldLink RX7 56 "RentOrBuyModel" "rise" "I", Cond.fieldLink RX7 13 "RentOrBuyModel" "cap" "I", Cond.methodLink RX7 70 yX7_knownBy, Cond.instanceMethod yX7_knownBy, Cond.selects RX7 yX7_knownBy yX7_knownBy, Cond.code yX7_knownBy cX7_knownBy 3 (some .int)]
def wsX7_sure : List Cond := .code yX7_sure cX7_sure 1 (some .int) :: ((wsX7_sure_r1 ++ wsX7_sure_r2) ++ wsX70)
def wsX7_share : List Cond := .code yX7_share cX7_share 5 (some .int) :: ([.fieldLink RX7 22 "RentOrBuyModel" "planShare" "[I", .fieldLink RX7 26 "RentOrBuyModel" "endShare" "[I", .methodLink RX7 66 yX7_in, .static yX7_in, .initialized RX7, .code yX7_in cX7_in 3 (some .boolean), .methodLink RX7 81 yX7_isPlan, .instanceMethod yX7_isPlan, .selects RX7 yX7_isPlan yX7_isPlan, .code yX7_isPlan cX7_isPlan 2 (some .boolean), .fieldLink RX7 19 "RentOrBuyModel" "ends" "I", .methodLink RX7 85 yX7_isEnd, .instanceMethod yX7_isEnd, .selects RX7 yX7_isEnd yX7_isEnd, .code yX7_isEnd cX7_isEnd 2 (some .boolean)] ++ wsX70)
def wsX7_planShares : List Cond := .code yX7_planShares cX7_planShares 4 (some .long) :: ([.fieldLink RX7 19 "RentOrBuyModel" "ends" "I", .fieldLink RX7 22 "RentOrBuyModel" "planShare" "[I"] ++ wsX70)
def wsX7_weighed : List Cond := .code yX7_weighed cX7_weighed 5 (some .long) :: ([.fieldLink RX7 19 "RentOrBuyModel" "ends" "I", .fieldLink RX7 22 "RentOrBuyModel" "planShare" "[I", .methodLink RX7 88 yX7_costOf, .instanceMethod yX7_costOf, .selects RX7 yX7_costOf yX7_costOf, .initialized RX7, .code yX7_costOf cX7_costOf 3 (some .int), .fieldLink RX7 16 "RentOrBuyModel" "price" "I", .methodLink RX7 63 yX7_rentsTo, .instanceMethod yX7_rentsTo, .selects RX7 yX7_rentsTo yX7_rentsTo, .code yX7_rentsTo cX7_rentsTo 4 (some .int), .methodLink RX7 59 yX7_rentOf, .instanceMethod yX7_rentOf, .selects RX7 yX7_rentOf yX7_rentOf, .code yX7_rentOf cX7_rentOf 3 (some .int), .fieldLink RX7 7 "RentOrBuyModel" "rent" "I", .fieldLink RX7 53 "RentOrBuyModel" "kind" "I", .fieldLink RX7 56 "RentOrBuyModel" "rise" "I", .fieldLink RX7 13 "RentOrBuyModel" "cap" "I"] ++ wsX70)
def wsX7_mean_r1 : List Cond := [Cond.constantLong RX7 103 (-1), Cond.constantLong RX7 109 (-2), Cond.methodLink RX7 85 yX7_isEnd, Cond.instanceMethod yX7_isEnd, Cond.selects RX7 yX7_isEnd yX7_isEnd, Cond.initialized RX7, Cond.code yX7_isEnd cX7_isEnd 2 (some .boolean), Cond.fieldLink RX7 19 "RentOrBuyModel" "ends" "I", Cond.methodLink RX7 66 yX7_in, Cond.static yX7_in, Cond.code yX7_in cX7_in 3 (some .boolean), Cond.methodLink RX7 105 yX7_planShares, Cond.instanceMethod yX7_planShares, Cond.selects RX7 yX7_planShares yX7_planShares, Cond.code yX7_planShares cX7_planShares 4 (some .long), Cond.fieldLink RX7 22 "RentOrBuyModel" "planShare" "[I", Cond.methodLink RX7 111 yX7_weighed, Cond.instanceMethod yX7_weighed, Cond.selects RX7 yX7_weighed yX7_weighed, Cond.code yX7_weighed cX7_weighed 5 (some .long), Cond.methodLink RX7 88 yX7_costOf, Cond.instanceMethod yX7_costOf, Cond.selects RX7 yX7_costOf yX7_costOf, Cond.code yX7_costOf cX7_costOf 3 (some .int)]
def wsX7_mean_r2 : List Cond := [Cond.fieldLink RX7 16 "RentOrBuyModel" "price" "I", Cond.methodLink RX7 63 yX7_rentsTo, Cond.instanceMethod yX7_rentsTo, Cond.selects RX7 yX7_rentsTo yX7_rentsTo, Cond.code yX7_rentsTo cX7_rentsTo 4 (some .int), Cond.methodLink RX7 59 yX7_rentOf, Cond.instanceMethod yX7_rentOf, Cond.selects RX7 yX7_rentOf yX7_rentOf, Cond.code yX7_rentOf cX7_rentOf 3 (some .int), Cond.fieldLink RX7 7 "RentOrBuyModel" "rent" "I", Cond.fieldLink RX7 53 "RentOrBuyModel" "kind" "I", Cond.fieldLink RX7 56 "RentOrBuyModel" "rise" "I", Cond.fieldLink RX7 13 "RentOrBuyModel" "cap" "I", Cond.methodLink RX7 70 yX7_knownBy, Cond.instanceMethod yX7_knownBy, Cond.selects RX7 yX7_knownBy yX7_knownBy, Cond.code yX7_knownBy cX7_knownBy 3 (some .int), Cond.methodLink RX7 95 yX7_common, Cond.static yX7_common, Cond.code yX7_common cX7_common 10 (some .long)]
def wsX7_mean : List Cond := .code yX7_mean cX7_mean 11 (some .long) :: ((wsX7_mean_r1 ++ wsX7_mean_r2) ++ wsX70)
def wsX7_upper_r1 : List Cond := [Cond.fieldLink RX7 19 "RentOrBuyModel" "ends" "I", Cond.constantLong RX7 115 (1000), Cond.methodLink RX7 105 yX7_planShares, Cond.instanceMethod yX7_planShares, Cond.selects RX7 yX7_planShares yX7_planShares, Cond.initialized RX7, Cond.code yX7_planShares cX7_planShares 4 (some .long), Cond.fieldLink RX7 22 "RentOrBuyModel" "planShare" "[I", Cond.methodLink RX7 70 yX7_knownBy, Cond.instanceMethod yX7_knownBy, Cond.selects RX7 yX7_knownBy yX7_knownBy, Cond.code yX7_knownBy cX7_knownBy 3 (some .int), Cond.fieldLink RX7 16 "RentOrBuyModel" "price" "I", Cond.methodLink RX7 63 yX7_rentsTo, Cond.instanceMethod yX7_rentsTo, Cond.selects RX7 yX7_rentsTo yX7_rentsTo, Cond.code yX7_rentsTo cX7_rentsTo 4 (some .int), Cond.methodLink RX7 59 yX7_rentOf, Cond.instanceMethod yX7_rentOf, Cond.selects RX7 yX7_rentOf yX7_rentOf, Cond.code yX7_rentOf cX7_rentOf 3 (some .int), Cond.fieldLink RX7 7 "RentOrBuyModel" "rent" "I", Cond.fieldLink RX7 53 "RentOrBuyModel" "kind" "I", Cond.fieldLink RX7 56 "RentOrBuyModel" "rise" "I"]
def wsX7_upper_r2 : List Cond := [Cond.fieldLink RX7 13 "RentOrBuyModel" "cap" "I", Cond.methodLink RX7 111 yX7_weighed, Cond.instanceMethod yX7_weighed, Cond.selects RX7 yX7_weighed yX7_weighed, Cond.code yX7_weighed cX7_weighed 5 (some .long), Cond.methodLink RX7 88 yX7_costOf, Cond.instanceMethod yX7_costOf, Cond.selects RX7 yX7_costOf yX7_costOf, Cond.code yX7_costOf cX7_costOf 3 (some .int)]
def wsX7_upper : List Cond := .code yX7_upper cX7_upper 10 (some .int) :: ((wsX7_upper_r1 ++ wsX7_upper_r2) ++ wsX70)
def wsX7_lower_r1 : List Cond := [Cond.fieldLink RX7 19 "RentOrBuyModel" "ends" "I", Cond.fieldLink RX7 26 "RentOrBuyModel" "endShare" "[I", Cond.constantLong RX7 103 (-1), Cond.constantLong RX7 117 (1000000), Cond.constantLong RX7 115 (1000), Cond.methodLink RX7 88 yX7_costOf, Cond.instanceMethod yX7_costOf, Cond.selects RX7 yX7_costOf yX7_costOf, Cond.initialized RX7, Cond.code yX7_costOf cX7_costOf 3 (some .int), Cond.fieldLink RX7 16 "RentOrBuyModel" "price" "I", Cond.methodLink RX7 63 yX7_rentsTo, Cond.instanceMethod yX7_rentsTo, Cond.selects RX7 yX7_rentsTo yX7_rentsTo, Cond.code yX7_rentsTo cX7_rentsTo 4 (some .int), Cond.methodLink RX7 59 yX7_rentOf, Cond.instanceMethod yX7_rentOf, Cond.selects RX7 yX7_rentOf yX7_rentOf, Cond.code yX7_rentOf cX7_rentOf 3 (some .int), Cond.fieldLink RX7 7 "RentOrBuyModel" "rent" "I", Cond.fieldLink RX7 53 "RentOrBuyModel" "kind" "I", Cond.fieldLink RX7 56 "RentOrBuyModel" "rise" "I", Cond.fieldLink RX7 13 "RentOrBuyModel" "cap" "I", Cond.methodLink RX7 70 yX7_knownBy]
def wsX7_lower_r2 : List Cond := [Cond.instanceMethod yX7_knownBy, Cond.selects RX7 yX7_knownBy yX7_knownBy, Cond.code yX7_knownBy cX7_knownBy 3 (some .int)]
def wsX7_lower : List Cond := .code yX7_lower cX7_lower 9 (some .int) :: ((wsX7_lower_r1 ++ wsX7_lower_r2) ++ wsX70)
def wsX7_bound_r1 : List Cond := [Cond.methodLink RX7 66 yX7_in, Cond.static yX7_in, Cond.initialized RX7, Cond.code yX7_in cX7_in 3 (some .boolean), Cond.methodLink RX7 119 yX7_upper, Cond.instanceMethod yX7_upper, Cond.selects RX7 yX7_upper yX7_upper, Cond.code yX7_upper cX7_upper 10 (some .int), Cond.fieldLink RX7 19 "RentOrBuyModel" "ends" "I", Cond.constantLong RX7 115 (1000), Cond.methodLink RX7 105 yX7_planShares, Cond.instanceMethod yX7_planShares, Cond.selects RX7 yX7_planShares yX7_planShares, Cond.code yX7_planShares cX7_planShares 4 (some .long), Cond.fieldLink RX7 22 "RentOrBuyModel" "planShare" "[I", Cond.methodLink RX7 70 yX7_knownBy, Cond.instanceMethod yX7_knownBy, Cond.selects RX7 yX7_knownBy yX7_knownBy, Cond.code yX7_knownBy cX7_knownBy 3 (some .int), Cond.fieldLink RX7 16 "RentOrBuyModel" "price" "I", Cond.methodLink RX7 63 yX7_rentsTo, Cond.instanceMethod yX7_rentsTo, Cond.selects RX7 yX7_rentsTo yX7_rentsTo, Cond.code yX7_rentsTo cX7_rentsTo 4 (some .int)]
def wsX7_bound_r2 : List Cond := [Cond.methodLink RX7 59 yX7_rentOf, Cond.instanceMethod yX7_rentOf, Cond.selects RX7 yX7_rentOf yX7_rentOf, Cond.code yX7_rentOf cX7_rentOf 3 (some .int), Cond.fieldLink RX7 7 "RentOrBuyModel" "rent" "I", Cond.fieldLink RX7 53 "RentOrBuyModel" "kind" "I", Cond.fieldLink RX7 56 "RentOrBuyModel" "rise" "I", Cond.fieldLink RX7 13 "RentOrBuyModel" "cap" "I", Cond.methodLink RX7 111 yX7_weighed, Cond.instanceMethod yX7_weighed, Cond.selects RX7 yX7_weighed yX7_weighed, Cond.code yX7_weighed cX7_weighed 5 (some .long), Cond.methodLink RX7 88 yX7_costOf, Cond.instanceMethod yX7_costOf, Cond.selects RX7 yX7_costOf yX7_costOf, Cond.code yX7_costOf cX7_costOf 3 (some .int), Cond.methodLink RX7 122 yX7_lower, Cond.instanceMethod yX7_lower, Cond.selects RX7 yX7_lower yX7_lower, Cond.code yX7_lower cX7_lower 9 (some .int), Cond.fieldLink RX7 26 "RentOrBuyModel" "endShare" "[I", Cond.constantLong RX7 103 (-1), Cond.constantLong RX7 117 (1000000)]
def wsX7_bound : List Cond := .code yX7_bound cX7_bound 2 (some .int) :: ((wsX7_bound_r1 ++ wsX7_bound_r2) ++ wsX70)
def wsX7_isTrust : List Cond := .code yX7_isTrust cX7_isTrust 1 (some .boolean) :: ([.methodLink RX7 66 yX7_in, .static yX7_in, .initialized RX7, .code yX7_in cX7_in 3 (some .boolean)])
def wsX7_planBy_r1 : List Cond := [Cond.fieldLink RX7 16 "RentOrBuyModel" "price" "I", Cond.fieldLink RX7 19 "RentOrBuyModel" "ends" "I", Cond.methodLink RX7 99 yX7_surePlan, Cond.instanceMethod yX7_surePlan, Cond.selects RX7 yX7_surePlan yX7_surePlan, Cond.initialized RX7, Cond.code yX7_surePlan cX7_surePlan 5 (some .int), Cond.methodLink RX7 92 yX7_worstEnd, Cond.instanceMethod yX7_worstEnd, Cond.selects RX7 yX7_worstEnd yX7_worstEnd, Cond.code yX7_worstEnd cX7_worstEnd 4 (some .int), Cond.methodLink RX7 88 yX7_costOf, Cond.instanceMethod yX7_costOf, Cond.selects RX7 yX7_costOf yX7_costOf, Cond.code yX7_costOf cX7_costOf 3 (some .int), Cond.methodLink RX7 63 yX7_rentsTo, Cond.instanceMethod yX7_rentsTo, Cond.selects RX7 yX7_rentsTo yX7_rentsTo, Cond.code yX7_rentsTo cX7_rentsTo 4 (some .int), Cond.methodLink RX7 59 yX7_rentOf, Cond.instanceMethod yX7_rentOf, Cond.selects RX7 yX7_rentOf yX7_rentOf, Cond.code yX7_rentOf cX7_rentOf 3 (some .int), Cond.fieldLink RX7 7 "RentOrBuyModel" "rent" "I"]
def wsX7_planBy_r2 : List Cond := [Cond.fieldLink RX7 53 "RentOrBuyModel" "kind" "I", Cond.fieldLink RX7 56 "RentOrBuyModel" "rise" "I", Cond.fieldLink RX7 13 "RentOrBuyModel" "cap" "I", Cond.methodLink RX7 70 yX7_knownBy, Cond.instanceMethod yX7_knownBy, Cond.selects RX7 yX7_knownBy yX7_knownBy, Cond.code yX7_knownBy cX7_knownBy 3 (some .int)]
def wsX7_planBy : List Cond := .code yX7_planBy cX7_planBy 5 (some .int) :: ((wsX7_planBy_r1 ++ wsX7_planBy_r2) ++ wsX70)
def wsX7_guess_r1 : List Cond := [Cond.methodLink RX7 85 yX7_isEnd, Cond.instanceMethod yX7_isEnd, Cond.selects RX7 yX7_isEnd yX7_isEnd, Cond.initialized RX7, Cond.code yX7_isEnd cX7_isEnd 2 (some .boolean), Cond.fieldLink RX7 19 "RentOrBuyModel" "ends" "I", Cond.methodLink RX7 66 yX7_in, Cond.static yX7_in, Cond.code yX7_in cX7_in 3 (some .boolean), Cond.methodLink RX7 125 yX7_isTrust, Cond.static yX7_isTrust, Cond.code yX7_isTrust cX7_isTrust 1 (some .boolean), Cond.methodLink RX7 128 yX7_planBy, Cond.instanceMethod yX7_planBy, Cond.selects RX7 yX7_planBy yX7_planBy, Cond.code yX7_planBy cX7_planBy 5 (some .int), Cond.fieldLink RX7 16 "RentOrBuyModel" "price" "I", Cond.methodLink RX7 99 yX7_surePlan, Cond.instanceMethod yX7_surePlan, Cond.selects RX7 yX7_surePlan yX7_surePlan, Cond.code yX7_surePlan cX7_surePlan 5 (some .int), Cond.methodLink RX7 92 yX7_worstEnd, Cond.instanceMethod yX7_worstEnd, Cond.selects RX7 yX7_worstEnd yX7_worstEnd]
def wsX7_guess_r2 : List Cond := [Cond.code yX7_worstEnd cX7_worstEnd 4 (some .int), Cond.methodLink RX7 88 yX7_costOf, Cond.instanceMethod yX7_costOf, Cond.selects RX7 yX7_costOf yX7_costOf, Cond.code yX7_costOf cX7_costOf 3 (some .int), Cond.methodLink RX7 63 yX7_rentsTo, Cond.instanceMethod yX7_rentsTo, Cond.selects RX7 yX7_rentsTo yX7_rentsTo, Cond.code yX7_rentsTo cX7_rentsTo 4 (some .int), Cond.methodLink RX7 59 yX7_rentOf, Cond.instanceMethod yX7_rentOf, Cond.selects RX7 yX7_rentOf yX7_rentOf, Cond.code yX7_rentOf cX7_rentOf 3 (some .int), Cond.fieldLink RX7 7 "RentOrBuyModel" "rent" "I", Cond.fieldLink RX7 53 "RentOrBuyModel" "kind" "I", Cond.fieldLink RX7 56 "RentOrBuyModel" "rise" "I", Cond.fieldLink RX7 13 "RentOrBuyModel" "cap" "I", Cond.methodLink RX7 70 yX7_knownBy, Cond.instanceMethod yX7_knownBy, Cond.selects RX7 yX7_knownBy yX7_knownBy, Cond.code yX7_knownBy cX7_knownBy 3 (some .int)]
def wsX7_guess : List Cond := .code yX7_guess cX7_guess 3 (some .int) :: ((wsX7_guess_r1 ++ wsX7_guess_r2) ++ wsX70)
def wsX7_trust_r1 : List Cond := [Cond.methodLink RX7 85 yX7_isEnd, Cond.instanceMethod yX7_isEnd, Cond.selects RX7 yX7_isEnd yX7_isEnd, Cond.initialized RX7, Cond.code yX7_isEnd cX7_isEnd 2 (some .boolean), Cond.fieldLink RX7 19 "RentOrBuyModel" "ends" "I", Cond.methodLink RX7 66 yX7_in, Cond.static yX7_in, Cond.code yX7_in cX7_in 3 (some .boolean), Cond.methodLink RX7 125 yX7_isTrust, Cond.static yX7_isTrust, Cond.code yX7_isTrust cX7_isTrust 1 (some .boolean), Cond.methodLink RX7 128 yX7_planBy, Cond.instanceMethod yX7_planBy, Cond.selects RX7 yX7_planBy yX7_planBy, Cond.code yX7_planBy cX7_planBy 5 (some .int), Cond.fieldLink RX7 16 "RentOrBuyModel" "price" "I", Cond.methodLink RX7 99 yX7_surePlan, Cond.instanceMethod yX7_surePlan, Cond.selects RX7 yX7_surePlan yX7_surePlan, Cond.code yX7_surePlan cX7_surePlan 5 (some .int), Cond.methodLink RX7 92 yX7_worstEnd, Cond.instanceMethod yX7_worstEnd, Cond.selects RX7 yX7_worstEnd yX7_worstEnd]
def wsX7_trust_r2 : List Cond := [Cond.code yX7_worstEnd cX7_worstEnd 4 (some .int), Cond.methodLink RX7 88 yX7_costOf, Cond.instanceMethod yX7_costOf, Cond.selects RX7 yX7_costOf yX7_costOf, Cond.code yX7_costOf cX7_costOf 3 (some .int), Cond.methodLink RX7 63 yX7_rentsTo, Cond.instanceMethod yX7_rentsTo, Cond.selects RX7 yX7_rentsTo yX7_rentsTo, Cond.code yX7_rentsTo cX7_rentsTo 4 (some .int), Cond.methodLink RX7 59 yX7_rentOf, Cond.instanceMethod yX7_rentOf, Cond.selects RX7 yX7_rentOf yX7_rentOf, Cond.code yX7_rentOf cX7_rentOf 3 (some .int), Cond.fieldLink RX7 7 "RentOrBuyModel" "rent" "I", Cond.fieldLink RX7 53 "RentOrBuyModel" "kind" "I", Cond.fieldLink RX7 56 "RentOrBuyModel" "rise" "I", Cond.fieldLink RX7 13 "RentOrBuyModel" "cap" "I", Cond.methodLink RX7 70 yX7_knownBy, Cond.instanceMethod yX7_knownBy, Cond.selects RX7 yX7_knownBy yX7_knownBy, Cond.code yX7_knownBy cX7_knownBy 3 (some .int), Cond.methodLink RX7 131 yX7_ratio, Cond.instanceMethod yX7_ratio, Cond.selects RX7 yX7_ratio yX7_ratio]
def wsX7_trust_r3 : List Cond := [Cond.code yX7_ratio cX7_ratio 8 (some .int), Cond.methodLink RX7 81 yX7_isPlan, Cond.instanceMethod yX7_isPlan, Cond.selects RX7 yX7_isPlan yX7_isPlan, Cond.code yX7_isPlan cX7_isPlan 2 (some .boolean), Cond.methodLink RX7 95 yX7_common, Cond.static yX7_common, Cond.code yX7_common cX7_common 10 (some .long)]
def wsX7_trust : List Cond := .code yX7_trust cX7_trust 5 (some .int) :: ((wsX7_trust_r1 ++ (wsX7_trust_r2 ++ wsX7_trust_r3)) ++ wsX70)
def wsX7_list : List Cond := .code yX7_list cX7_list 3 (some .int) :: ([.fieldLink RX7 29 "RentOrBuyModel" "things" "I", .fieldLink RX7 50 "RentOrBuyModel" "requests" "I", .methodLink RX7 66 yX7_in, .static yX7_in, .initialized RX7, .code yX7_in cX7_in 3 (some .boolean)] ++ wsX70)
def wsX7_request : List Cond := .code yX7_request cX7_request 2 (some .int) :: ([.fieldLink RX7 29 "RentOrBuyModel" "things" "I", .fieldLink RX7 50 "RentOrBuyModel" "requests" "I", .fieldLink RX7 32 "RentOrBuyModel" "request" "[I", .methodLink RX7 66 yX7_in, .static yX7_in, .initialized RX7, .code yX7_in cX7_in 3 (some .boolean)] ++ wsX70)
def wsX7_drop : List Cond := .code yX7_drop cX7_drop 1 (some .int) :: ([.fieldLink RX7 50 "RentOrBuyModel" "requests" "I"] ++ wsX70)
def wsX7_frontCost : List Cond := .code yX7_frontCost cX7_frontCost 5 (some .int) :: ([.fieldLink RX7 29 "RentOrBuyModel" "things" "I", .fieldLink RX7 35 "RentOrBuyModel" "row" "[I", .fieldLink RX7 50 "RentOrBuyModel" "requests" "I", .fieldLink RX7 32 "RentOrBuyModel" "request" "[I"] ++ wsX70)
def wsX7_ordersOf : List Cond := .code yX7_ordersOf cX7_ordersOf 6 none :: ([.fieldLink RX7 135 "RentOrBuyModel" "orders" "I", .fieldLink RX7 29 "RentOrBuyModel" "things" "I", .fieldLink RX7 38 "RentOrBuyModel" "order" "[I"] ++ wsX70)
def wsX7_placeIn : List Cond := .code yX7_placeIn cX7_placeIn 4 (some .int) :: ([.fieldLink RX7 38 "RentOrBuyModel" "order" "[I"] ++ wsX70)
def wsX7_staysCost : List Cond := .code yX7_staysCost cX7_staysCost 4 (some .int) :: ([.fieldLink RX7 50 "RentOrBuyModel" "requests" "I", .fieldLink RX7 32 "RentOrBuyModel" "request" "[I", .methodLink RX7 138 yX7_placeIn, .instanceMethod yX7_placeIn, .selects RX7 yX7_placeIn yX7_placeIn, .initialized RX7, .code yX7_placeIn cX7_placeIn 4 (some .int), .fieldLink RX7 38 "RentOrBuyModel" "order" "[I"] ++ wsX70)
def wsX7_apart : List Cond := .code yX7_apart cX7_apart 6 (some .int) :: ([.fieldLink RX7 29 "RentOrBuyModel" "things" "I", .methodLink RX7 138 yX7_placeIn, .instanceMethod yX7_placeIn, .selects RX7 yX7_placeIn yX7_placeIn, .initialized RX7, .code yX7_placeIn cX7_placeIn 4 (some .int), .fieldLink RX7 38 "RentOrBuyModel" "order" "[I"] ++ wsX70)
def wsX7_comesOf : List Cond := .code yX7_comesOf cX7_comesOf 8 (some .boolean) :: ([.fieldLink RX7 29 "RentOrBuyModel" "things" "I", .methodLink RX7 138 yX7_placeIn, .instanceMethod yX7_placeIn, .selects RX7 yX7_placeIn yX7_placeIn, .initialized RX7, .code yX7_placeIn cX7_placeIn 4 (some .int), .fieldLink RX7 38 "RentOrBuyModel" "order" "[I"] ++ wsX70)
def wsX7_bestCost : List Cond := .code yX7_bestCost cX7_bestCost 5 (some .int) :: ([.fieldLink RX7 135 "RentOrBuyModel" "orders" "I", .fieldLink RX7 29 "RentOrBuyModel" "things" "I", .fieldLink RX7 38 "RentOrBuyModel" "order" "[I", .fieldLink RX7 41 "RentOrBuyModel" "least" "[I", .constant RX7 141 (1000000), .fieldLink RX7 47 "RentOrBuyModel" "far" "[I", .fieldLink RX7 50 "RentOrBuyModel" "requests" "I", .fieldLink RX7 44 "RentOrBuyModel" "then" "[I", .fieldLink RX7 32 "RentOrBuyModel" "request" "[I", .methodLink RX7 142 yX7_apart, .instanceMethod yX7_apart, .selects RX7 yX7_apart yX7_apart, .initialized RX7, .code yX7_apart cX7_apart 6 (some .int), .methodLink RX7 138 yX7_placeIn, .instanceMethod yX7_placeIn, .selects RX7 yX7_placeIn yX7_placeIn, .code yX7_placeIn cX7_placeIn 4 (some .int), .methodLink RX7 145 yX7_comesOf, .instanceMethod yX7_comesOf, .selects RX7 yX7_comesOf yX7_comesOf, .code yX7_comesOf cX7_comesOf 8 (some .boolean)] ++ wsX70)
def wsX7_serve_r1 : List Cond := [Cond.fieldLink RX7 135 "RentOrBuyModel" "orders" "I", Cond.fieldLink RX7 29 "RentOrBuyModel" "things" "I", Cond.fieldLink RX7 38 "RentOrBuyModel" "order" "[I", Cond.methodLink RX7 66 yX7_in, Cond.static yX7_in, Cond.initialized RX7, Cond.code yX7_in cX7_in 3 (some .boolean), Cond.methodLink RX7 148 yX7_frontCost, Cond.instanceMethod yX7_frontCost, Cond.selects RX7 yX7_frontCost yX7_frontCost, Cond.code yX7_frontCost cX7_frontCost 5 (some .int), Cond.fieldLink RX7 35 "RentOrBuyModel" "row" "[I", Cond.fieldLink RX7 50 "RentOrBuyModel" "requests" "I", Cond.fieldLink RX7 32 "RentOrBuyModel" "request" "[I", Cond.methodLink RX7 151 yX7_ordersOf, Cond.instanceMethod yX7_ordersOf, Cond.selects RX7 yX7_ordersOf yX7_ordersOf, Cond.code yX7_ordersOf cX7_ordersOf 6 none, Cond.methodLink RX7 154 yX7_staysCost, Cond.instanceMethod yX7_staysCost, Cond.selects RX7 yX7_staysCost yX7_staysCost, Cond.code yX7_staysCost cX7_staysCost 4 (some .int), Cond.methodLink RX7 138 yX7_placeIn, Cond.instanceMethod yX7_placeIn]
def wsX7_serve_r2 : List Cond := [Cond.selects RX7 yX7_placeIn yX7_placeIn, Cond.code yX7_placeIn cX7_placeIn 4 (some .int), Cond.methodLink RX7 157 yX7_bestCost, Cond.instanceMethod yX7_bestCost, Cond.selects RX7 yX7_bestCost yX7_bestCost, Cond.code yX7_bestCost cX7_bestCost 5 (some .int), Cond.fieldLink RX7 41 "RentOrBuyModel" "least" "[I", Cond.constant RX7 141 (1000000), Cond.fieldLink RX7 47 "RentOrBuyModel" "far" "[I", Cond.fieldLink RX7 44 "RentOrBuyModel" "then" "[I", Cond.methodLink RX7 142 yX7_apart, Cond.instanceMethod yX7_apart, Cond.selects RX7 yX7_apart yX7_apart, Cond.code yX7_apart cX7_apart 6 (some .int), Cond.methodLink RX7 145 yX7_comesOf, Cond.instanceMethod yX7_comesOf, Cond.selects RX7 yX7_comesOf yX7_comesOf, Cond.code yX7_comesOf cX7_comesOf 8 (some .boolean)]
def wsX7_serve : List Cond := .code yX7_serve cX7_serve 8 (some .int) :: ((wsX7_serve_r1 ++ wsX7_serve_r2) ++ wsX70)
def wsX7_at : List Cond := .code yX7_at cX7_at 3 (some .int) :: ([.fieldLink RX7 29 "RentOrBuyModel" "things" "I", .fieldLink RX7 35 "RentOrBuyModel" "row" "[I", .methodLink RX7 66 yX7_in, .static yX7_in, .initialized RX7, .code yX7_in cX7_in 3 (some .boolean), .methodLink RX7 148 yX7_frontCost, .instanceMethod yX7_frontCost, .selects RX7 yX7_frontCost yX7_frontCost, .code yX7_frontCost cX7_frontCost 5 (some .int), .fieldLink RX7 50 "RentOrBuyModel" "requests" "I", .fieldLink RX7 32 "RentOrBuyModel" "request" "[I"] ++ wsX70)
def wsX7_count : List Cond := .code yX7_count cX7_count 2 (some .int) :: ([.fieldLink RX7 19 "RentOrBuyModel" "ends" "I", .fieldLink RX7 53 "RentOrBuyModel" "kind" "I", .fieldLink RX7 29 "RentOrBuyModel" "things" "I", .fieldLink RX7 50 "RentOrBuyModel" "requests" "I"] ++ wsX70)
def wsX7_trace : List Cond := .code yX7_trace cX7_trace 1 (some .long) :: ([.fieldLink RX7 73 "RentOrBuyModel" "trace" "J"] ++ wsX70)
def wsJ9_max_f86c9 : List Cond := .code yJ9_max_f86c9 cJ9_max_f86c9 4 (some .long) :: ([])
def wsJ9_min_7cf53 : List Cond := .code yJ9_min_7cf53 cJ9_min_7cf53 2 (some .int) :: ([])
def wsJ9_min_f86c9 : List Cond := .code yJ9_min_f86c9 cJ9_min_f86c9 4 (some .long) :: ([])
def wsL_law_r1 : List Cond := [Cond.classLink RL 7 RX6, Cond.instantiable RX6 4, Cond.initialized RX6, Cond.classLink RL 10 RX7, Cond.instantiable RX7 18, Cond.initialized RX7, Cond.methodLink RL 9 yX6_init, Cond.instanceMethod yX6_init, Cond.code yX6_init cX6_init 1 none, Cond.methodLink RX6 1 objectInit, Cond.instanceMethod objectInit, Cond.code objectInit ⟨#[0xb1]⟩ 1 none, Cond.classLink RX6 7 RX3, Cond.instantiable RX3 3, Cond.initialized RX3, Cond.fieldLink RX6 10 "RentOrBuy" "plans" "LRentOrBuy$Plans;", Cond.classLink RX6 16 RX2, Cond.instantiable RX2 2, Cond.initialized RX2, Cond.fieldLink RX6 19 "RentOrBuy" "lots" "LRentOrBuy$Lots;", Cond.classLink RX6 23 RX5, Cond.instantiable RX5 6, Cond.initialized RX5, Cond.fieldLink RX6 26 "RentOrBuy" "shelf" "LRentOrBuy$Shelf;"]
def wsL_law_r2 : List Cond := [Cond.fieldLink RX6 30 "RentOrBuy" "traced" "J", Cond.methodLink RX6 9 yX3_init, Cond.instanceMethod yX3_init, Cond.code yX3_init cX3_init 2 none, Cond.methodLink RX3 3 objectInit, Cond.fieldLink RX3 9 "RentOrBuy$Plans" "days" "I", Cond.classLink RX3 15 RX1, Cond.instantiable RX1 2, Cond.initialized RX1, Cond.fieldLink RX3 20 "RentOrBuy$Plans" "taken" "LRentOrBuy$Flat;", Cond.arrayClass .int, Cond.fieldLink RX3 24 "RentOrBuy$Plans" "rents" "[I", Cond.methodLink RX3 17 yX1_init, Cond.instanceMethod yX1_init, Cond.code yX1_init cX1_init 3 none, Cond.methodLink RX1 3 objectInit, Cond.fieldLink RX1 9 "RentOrBuy$Flat" "dayRent" "I", Cond.fieldLink RX1 15 "RentOrBuy$Flat" "price" "I", Cond.methodLink RX6 18 yX2_init, Cond.instanceMethod yX2_init, Cond.code yX2_init cX2_init 1 none, Cond.methodLink RX2 3 objectInit, Cond.fieldLink RX2 9 "RentOrBuy$Lots" "ofPlans" "[I", Cond.fieldLink RX2 15 "RentOrBuy$Lots" "ofEnds" "[I"]
def wsL_law_r3 : List Cond := [Cond.methodLink RX6 25 yX5_init, Cond.instanceMethod yX5_init, Cond.code yX5_init cX5_init 1 none, Cond.methodLink RX5 3 objectInit, Cond.fieldLink RX5 9 "RentOrBuy$Shelf" "asked" "[I", Cond.fieldLink RX5 15 "RentOrBuy$Shelf" "orders" "[I", Cond.fieldLink RX5 18 "RentOrBuy$Shelf" "least" "[I", Cond.fieldLink RX5 21 "RentOrBuy$Shelf" "things" "I", Cond.fieldLink RX5 25 "RentOrBuy$Shelf" "requests" "I", Cond.methodLink RX5 28 yX5_findOrders, Cond.instanceMethod yX5_findOrders, Cond.selects RX5 yX5_findOrders yX5_findOrders, Cond.code yX5_findOrders cX5_findOrders 2 none, Cond.fieldLink RX5 31 "RentOrBuy$Shelf" "orderCount" "I", Cond.methodLink RX5 34 yX5_isOrder, Cond.instanceMethod yX5_isOrder, Cond.selects RX5 yX5_isOrder yX5_isOrder, Cond.code yX5_isOrder cX5_isOrder 4 (some .boolean), Cond.methodLink RX5 38 yX5_thingAt, Cond.static yX5_thingAt, Cond.code yX5_thingAt cX5_thingAt 2 (some .int), Cond.methodLink RL 12 yX7_init, Cond.instanceMethod yX7_init, Cond.code yX7_init cX7_init 1 none]
def wsL_law_r4 : List Cond := [Cond.methodLink RX7 1 objectInit, Cond.fieldLink RX7 7 "RentOrBuyModel" "rent" "I", Cond.fieldLink RX7 13 "RentOrBuyModel" "cap" "I", Cond.fieldLink RX7 16 "RentOrBuyModel" "price" "I", Cond.fieldLink RX7 19 "RentOrBuyModel" "ends" "I", Cond.fieldLink RX7 22 "RentOrBuyModel" "planShare" "[I", Cond.fieldLink RX7 26 "RentOrBuyModel" "endShare" "[I", Cond.fieldLink RX7 29 "RentOrBuyModel" "things" "I", Cond.fieldLink RX7 32 "RentOrBuyModel" "request" "[I", Cond.fieldLink RX7 35 "RentOrBuyModel" "row" "[I", Cond.fieldLink RX7 38 "RentOrBuyModel" "order" "[I", Cond.fieldLink RX7 41 "RentOrBuyModel" "least" "[I", Cond.fieldLink RX7 44 "RentOrBuyModel" "then" "[I", Cond.fieldLink RX7 47 "RentOrBuyModel" "far" "[I", Cond.fieldLink RX7 50 "RentOrBuyModel" "requests" "I", Cond.methodLink RL 13 yX6_offer, Cond.instanceMethod yX6_offer, Cond.selects RX6 yX6_offer yX6_offer, Cond.code yX6_offer cX6_offer 6 (some .int), Cond.classLink RX6 38 RX1, Cond.classLink RX6 43 RX4, Cond.instantiable RX4 3, Cond.initialized RX4, Cond.classLink RX6 48 RX0]
def wsL_law_r5 : List Cond := [Cond.instantiable RX0 4, Cond.initialized RX0, Cond.methodLink RX6 34 yX6_isWithin, Cond.static yX6_isWithin, Cond.code yX6_isWithin cX6_isWithin 3 (some .boolean), Cond.methodLink RX6 40 yX1_init, Cond.methodLink RX6 45 yX4_init, Cond.instanceMethod yX4_init, Cond.code yX4_init cX4_init 4 none, Cond.fieldLink RX4 9 "RentOrBuy$Rising" "rise" "I", Cond.methodLink RX4 3 yX1_init, Cond.methodLink RX6 50 yX0_init, Cond.instanceMethod yX0_init, Cond.code yX0_init cX0_init 5 none, Cond.fieldLink RX0 9 "RentOrBuy$Capped" "cap" "I", Cond.methodLink RX0 3 yX4_init, Cond.methodLink RX6 53 yX3_take, Cond.instanceMethod yX3_take, Cond.selects RX3 yX3_take yX3_take, Cond.code yX3_take cX3_take 3 none, Cond.methodLink RX3 28 ⟨"RentOrBuy$Flat", "rentOf", "(I)I"⟩, Cond.sameMethod "RentOrBuy$Flat" "RentOrBuy$Flat" "rentOf" "(I)I", Cond.instanceMethod ⟨"RentOrBuy$Flat", "rentOf", "(I)I"⟩, Cond.selects RX0 ⟨"RentOrBuy$Flat", "rentOf", "(I)I"⟩ yX0_rentOf]
def wsL_law_r6 : List Cond := [Cond.instanceMethod yX0_rentOf, Cond.code yX0_rentOf cX0_rentOf 2 (some .int), Cond.methodLink RX0 19 Lib.Math.min.name, Cond.static Lib.Math.min.name, Cond.initialized "java/lang/Math", Cond.code Lib.Math.min.name Lib.Math.min.code 2 (some .int), Cond.methodLink RX0 15 yX4_rentOf, Cond.sameMethod "RentOrBuy$Rising" "RentOrBuy$Rising" "rentOf" "(I)I", Cond.superclass RX0 RX4, Cond.instanceMethod yX4_rentOf, Cond.code yX4_rentOf cX4_rentOf 2 (some .int), Cond.methodLink RX4 15 yX1_rentOf, Cond.superclass RX4 RX1, Cond.instanceMethod yX1_rentOf, Cond.code yX1_rentOf cX1_rentOf 2 (some .int), Cond.methodLink RX3 28 yX1_rentOf, Cond.selects RX1 yX1_rentOf yX1_rentOf, Cond.selects RX4 ⟨"RentOrBuy$Flat", "rentOf", "(I)I"⟩ yX4_rentOf, Cond.methodLink RX6 61 yX3_knownBy, Cond.instanceMethod yX3_knownBy, Cond.selects RX3 yX3_knownBy yX3_knownBy, Cond.code yX3_knownBy cX3_knownBy 2 (some .int), Cond.methodLink RX3 39 Lib.Math.min.name, Cond.methodLink RL 17 yX7_offer]
def wsL_law_r7 : List Cond := [Cond.instanceMethod yX7_offer, Cond.selects RX7 yX7_offer yX7_offer, Cond.code yX7_offer cX7_offer 6 (some .int), Cond.fieldLink RX7 53 "RentOrBuyModel" "kind" "I", Cond.fieldLink RX7 56 "RentOrBuyModel" "rise" "I", Cond.methodLink RX7 66 yX7_in, Cond.static yX7_in, Cond.code yX7_in cX7_in 3 (some .boolean), Cond.methodLink RX7 70 yX7_knownBy, Cond.instanceMethod yX7_knownBy, Cond.selects RX7 yX7_knownBy yX7_knownBy, Cond.code yX7_knownBy cX7_knownBy 3 (some .int), Cond.methodLink RX7 63 yX7_rentsTo, Cond.instanceMethod yX7_rentsTo, Cond.selects RX7 yX7_rentsTo yX7_rentsTo, Cond.code yX7_rentsTo cX7_rentsTo 4 (some .int), Cond.methodLink RX7 59 yX7_rentOf, Cond.instanceMethod yX7_rentOf, Cond.selects RX7 yX7_rentOf yX7_rentOf, Cond.code yX7_rentOf cX7_rentOf 3 (some .int), Cond.methodLink RL 18 yX6_ends, Cond.instanceMethod yX6_ends, Cond.selects RX6 yX6_ends yX6_ends, Cond.code yX6_ends cX6_ends 3 (some .int)]
def wsL_law_r8 : List Cond := [Cond.methodLink RX6 65 yX2_clearAll, Cond.instanceMethod yX2_clearAll, Cond.selects RX2 yX2_clearAll yX2_clearAll, Cond.code yX2_clearAll cX2_clearAll 2 none, Cond.methodLink RL 22 yX7_ends, Cond.instanceMethod yX7_ends, Cond.selects RX7 yX7_ends yX7_ends, Cond.code yX7_ends cX7_ends 4 (some .int), Cond.methodLink RL 23 yX6_rent, Cond.instanceMethod yX6_rent, Cond.selects RX6 yX6_rent yX6_rent, Cond.code yX6_rent cX6_rent 2 (some .int), Cond.methodLink RX6 72 ⟨"RentOrBuy$Flat", "bodiesAsked", "()I"⟩, Cond.sameMethod "RentOrBuy$Flat" "RentOrBuy$Flat" "bodiesAsked" "()I", Cond.instanceMethod ⟨"RentOrBuy$Flat", "bodiesAsked", "()I"⟩, Cond.selects RX0 ⟨"RentOrBuy$Flat", "bodiesAsked", "()I"⟩ yX0_bodiesAsked, Cond.instanceMethod yX0_bodiesAsked, Cond.code yX0_bodiesAsked cX0_bodiesAsked 1 (some .int), Cond.methodLink RX0 25 yX4_bodiesAsked, Cond.sameMethod "RentOrBuy$Rising" "RentOrBuy$Rising" "bodiesAsked" "()I", Cond.instanceMethod yX4_bodiesAsked, Cond.code yX4_bodiesAsked cX4_bodiesAsked 1 (some .int), Cond.methodLink RX4 19 yX1_bodiesAsked, Cond.instanceMethod yX1_bodiesAsked]
def wsL_law_r9 : List Cond := [Cond.code yX1_bodiesAsked cX1_bodiesAsked 1 (some .int), Cond.methodLink RX6 72 yX1_bodiesAsked, Cond.selects RX1 yX1_bodiesAsked yX1_bodiesAsked, Cond.selects RX4 ⟨"RentOrBuy$Flat", "bodiesAsked", "()I"⟩ yX4_bodiesAsked, Cond.methodLink RX6 76 ⟨"RentOrBuy$Flat", "rentOf", "(I)I"⟩, Cond.methodLink RX6 76 yX1_rentOf, Cond.methodLink RL 26 yX7_rent, Cond.instanceMethod yX7_rent, Cond.selects RX7 yX7_rent yX7_rent, Cond.code yX7_rent cX7_rent 2 (some .int), Cond.fieldLink RX7 73 "RentOrBuyModel" "trace" "J", Cond.constantLong RX7 77 (11), Cond.constantLong RX7 79 (111), Cond.methodLink RL 27 yX6_cost, Cond.instanceMethod yX6_cost, Cond.selects RX6 yX6_cost yX6_cost, Cond.code yX6_cost cX6_cost 3 (some .int), Cond.methodLink RX6 79 yX3_isPlan, Cond.instanceMethod yX3_isPlan, Cond.selects RX3 yX3_isPlan yX3_isPlan, Cond.code yX3_isPlan cX3_isPlan 2 (some .boolean), Cond.methodLink RX6 83 yX3_isEnd, Cond.instanceMethod yX3_isEnd, Cond.selects RX3 yX3_isEnd yX3_isEnd]
def wsL_law_r10 : List Cond := [Cond.code yX3_isEnd cX3_isEnd 2 (some .boolean), Cond.methodLink RX6 86 yX3_costOf, Cond.instanceMethod yX3_costOf, Cond.selects RX3 yX3_costOf yX3_costOf, Cond.code yX3_costOf cX3_costOf 3 (some .int), Cond.methodLink RL 31 yX7_cost, Cond.instanceMethod yX7_cost, Cond.selects RX7 yX7_cost yX7_cost, Cond.code yX7_cost cX7_cost 3 (some .int), Cond.methodLink RX7 81 yX7_isPlan, Cond.instanceMethod yX7_isPlan, Cond.selects RX7 yX7_isPlan yX7_isPlan, Cond.code yX7_isPlan cX7_isPlan 2 (some .boolean), Cond.methodLink RX7 85 yX7_isEnd, Cond.instanceMethod yX7_isEnd, Cond.selects RX7 yX7_isEnd yX7_isEnd, Cond.code yX7_isEnd cX7_isEnd 2 (some .boolean), Cond.methodLink RX7 88 yX7_costOf, Cond.instanceMethod yX7_costOf, Cond.selects RX7 yX7_costOf yX7_costOf, Cond.code yX7_costOf cX7_costOf 3 (some .int), Cond.methodLink RL 32 yX6_known, Cond.instanceMethod yX6_known, Cond.selects RX6 yX6_known yX6_known]
def wsL_law_r11 : List Cond := [Cond.code yX6_known cX6_known 2 (some .int), Cond.methodLink RL 35 yX7_known, Cond.instanceMethod yX7_known, Cond.selects RX7 yX7_known yX7_known, Cond.code yX7_known cX7_known 2 (some .int), Cond.methodLink RL 36 yX6_ratio, Cond.instanceMethod yX6_ratio, Cond.selects RX6 yX6_ratio yX6_ratio, Cond.code yX6_ratio cX6_ratio 4 (some .int), Cond.methodLink RX6 90 yX3_worstEnd, Cond.instanceMethod yX3_worstEnd, Cond.selects RX3 yX3_worstEnd yX3_worstEnd, Cond.code yX3_worstEnd cX3_worstEnd 4 (some .int), Cond.methodLink RX3 55 yX3_isRatioGreater, Cond.instanceMethod yX3_isRatioGreater, Cond.selects RX3 yX3_isRatioGreater yX3_isRatioGreater, Cond.code yX3_isRatioGreater cX3_isRatioGreater 5 (some .boolean), Cond.methodLink RX3 45 yX3_costOf, Cond.methodLink RX3 48 yX3_knownBy, Cond.methodLink RX6 93 yX3_ratioPart, Cond.instanceMethod yX3_ratioPart, Cond.selects RX3 yX3_ratioPart yX3_ratioPart, Cond.code yX3_ratioPart cX3_ratioPart 4 (some .int), Cond.static yX6_leastForm]
def wsL_law_r12 : List Cond := [Cond.code yX6_leastForm cX6_leastForm 5 (some .long), Cond.methodLink RX6 173 yX6_commonDivisor, Cond.static yX6_commonDivisor, Cond.code yX6_commonDivisor cX6_commonDivisor 11 (some .long), Cond.methodLink RX6 177 yX6_roundedDown, Cond.static yX6_roundedDown, Cond.code yX6_roundedDown cX6_roundedDown 4 (some .long), Cond.methodLink RL 40 yX7_ratio, Cond.instanceMethod yX7_ratio, Cond.selects RX7 yX7_ratio yX7_ratio, Cond.code yX7_ratio cX7_ratio 8 (some .int), Cond.methodLink RX7 92 yX7_worstEnd, Cond.instanceMethod yX7_worstEnd, Cond.selects RX7 yX7_worstEnd yX7_worstEnd, Cond.code yX7_worstEnd cX7_worstEnd 4 (some .int), Cond.methodLink RX7 95 yX7_common, Cond.static yX7_common, Cond.code yX7_common cX7_common 10 (some .long), Cond.methodLink RL 41 yX6_sure, Cond.instanceMethod yX6_sure, Cond.selects RX6 yX6_sure yX6_sure, Cond.code yX6_sure cX6_sure 1 (some .int), Cond.methodLink RX6 97 yX3_surePlan, Cond.instanceMethod yX3_surePlan]
def wsL_law_r13 : List Cond := [Cond.selects RX3 yX3_surePlan yX3_surePlan, Cond.code yX3_surePlan cX3_surePlan 5 (some .int), Cond.methodLink RX3 59 yX3_worstEnd, Cond.methodLink RL 45 yX7_sure, Cond.instanceMethod yX7_sure, Cond.selects RX7 yX7_sure yX7_sure, Cond.code yX7_sure cX7_sure 1 (some .int), Cond.methodLink RX7 99 yX7_surePlan, Cond.instanceMethod yX7_surePlan, Cond.selects RX7 yX7_surePlan yX7_surePlan, Cond.code yX7_surePlan cX7_surePlan 5 (some .int), Cond.methodLink RL 46 yX6_share, Cond.instanceMethod yX6_share, Cond.selects RX6 yX6_share yX6_share, Cond.code yX6_share cX6_share 4 (some .int), Cond.methodLink RX6 107 yX2_replace, Cond.static yX2_replace, Cond.code yX2_replace cX2_replace 4 (some .int), Cond.methodLink RL 49 yX7_share, Cond.instanceMethod yX7_share, Cond.selects RX7 yX7_share yX7_share, Cond.code yX7_share cX7_share 5 (some .int), Cond.methodLink RL 50 yX6_mean, Cond.instanceMethod yX6_mean]
def wsL_law_r14 : List Cond := [Cond.selects RX6 yX6_mean yX6_mean, Cond.code yX6_mean cX6_mean 4 (some .long), Cond.constantLong RX6 111 (-1), Cond.constantLong RX6 117 (-2), Cond.methodLink RX6 113 yX2_total, Cond.static yX2_total, Cond.code yX2_total cX2_total 6 (some .int), Cond.methodLink RX6 119 yX2_costsBy, Cond.instanceMethod yX2_costsBy, Cond.selects RX2 yX2_costsBy yX2_costsBy, Cond.code yX2_costsBy cX2_costsBy 6 (some .long), Cond.methodLink RX2 24 yX3_costOf, Cond.methodLink RX6 123 yX6_leastForm, Cond.methodLink RL 54 yX7_mean, Cond.instanceMethod yX7_mean, Cond.selects RX7 yX7_mean yX7_mean, Cond.code yX7_mean cX7_mean 11 (some .long), Cond.constantLong RX7 103 (-1), Cond.constantLong RX7 109 (-2), Cond.methodLink RX7 105 yX7_planShares, Cond.instanceMethod yX7_planShares, Cond.selects RX7 yX7_planShares yX7_planShares, Cond.code yX7_planShares cX7_planShares 4 (some .long), Cond.methodLink RX7 111 yX7_weighed]
def wsL_law_r15 : List Cond := [Cond.instanceMethod yX7_weighed, Cond.selects RX7 yX7_weighed yX7_weighed, Cond.code yX7_weighed cX7_weighed 5 (some .long), Cond.methodLink RL 55 yX6_bound, Cond.instanceMethod yX6_bound, Cond.selects RX6 yX6_bound yX6_bound, Cond.code yX6_bound cX6_bound 3 (some .int), Cond.methodLink RX6 127 yX2_upperBound, Cond.instanceMethod yX2_upperBound, Cond.selects RX2 yX2_upperBound yX2_upperBound, Cond.code yX2_upperBound cX2_upperBound 8 (some .long), Cond.constantLong RX2 32 (1000), Cond.methodLink RX2 42 Lib.MathLoose.max_long.x, Cond.static Lib.MathLoose.max_long.x, Cond.code Lib.MathLoose.max_long.x Lib.MathLoose.max_long.code 4 (some .long), Cond.methodLink RX2 28 yX2_costsBy, Cond.methodLink RX2 34 yX3_knownBy, Cond.static yX6_roundedUp, Cond.code yX6_roundedUp cX6_roundedUp 4 (some .long), Cond.methodLink RX6 130 yX2_lowerBound, Cond.instanceMethod yX2_lowerBound, Cond.selects RX2 yX2_lowerBound yX2_lowerBound, Cond.code yX2_lowerBound cX2_lowerBound 6 (some .long), Cond.methodLink RX2 50 Lib.MathLoose.min_long.x]
def wsL_law_r16 : List Cond := [Cond.static Lib.MathLoose.min_long.x, Cond.code Lib.MathLoose.min_long.x Lib.MathLoose.min_long.code 4 (some .long), Cond.methodLink RX2 47 yX2_millionthsOf, Cond.instanceMethod yX2_millionthsOf, Cond.selects RX2 yX2_millionthsOf yX2_millionthsOf, Cond.code yX2_millionthsOf cX2_millionthsOf 6 (some .long), Cond.constantLong RX2 56 (1000000), Cond.methodLink RL 58 yX7_bound, Cond.instanceMethod yX7_bound, Cond.selects RX7 yX7_bound yX7_bound, Cond.code yX7_bound cX7_bound 2 (some .int), Cond.methodLink RX7 119 yX7_upper, Cond.instanceMethod yX7_upper, Cond.selects RX7 yX7_upper yX7_upper, Cond.code yX7_upper cX7_upper 10 (some .int), Cond.constantLong RX7 115 (1000), Cond.methodLink RX7 122 yX7_lower, Cond.instanceMethod yX7_lower, Cond.selects RX7 yX7_lower yX7_lower, Cond.code yX7_lower cX7_lower 9 (some .int), Cond.constantLong RX7 117 (1000000), Cond.methodLink RL 59 yX6_guess, Cond.instanceMethod yX6_guess, Cond.selects RX6 yX6_guess yX6_guess]
def wsL_law_r17 : List Cond := [Cond.code yX6_guess cX6_guess 3 (some .int), Cond.methodLink RX6 133 yX3_planByGuess, Cond.instanceMethod yX3_planByGuess, Cond.selects RX3 yX3_planByGuess yX3_planByGuess, Cond.code yX3_planByGuess cX3_planByGuess 4 (some .int), Cond.constantLong RX3 66 (10), Cond.methodLink RX3 75 Lib.MathLoose.min_long.x, Cond.methodLink RX3 62 yX3_surePlan, Cond.methodLink RL 62 yX7_guess, Cond.instanceMethod yX7_guess, Cond.selects RX7 yX7_guess yX7_guess, Cond.code yX7_guess cX7_guess 3 (some .int), Cond.methodLink RX7 125 yX7_isTrust, Cond.static yX7_isTrust, Cond.code yX7_isTrust cX7_isTrust 1 (some .boolean), Cond.methodLink RX7 128 yX7_planBy, Cond.instanceMethod yX7_planBy, Cond.selects RX7 yX7_planBy yX7_planBy, Cond.code yX7_planBy cX7_planBy 5 (some .int), Cond.methodLink RL 63 yX6_trust, Cond.instanceMethod yX6_trust, Cond.selects RX6 yX6_trust yX6_trust, Cond.code yX6_trust cX6_trust 6 (some .int), Cond.methodLink RL 67 yX7_trust]
def wsL_law_r18 : List Cond := [Cond.instanceMethod yX7_trust, Cond.selects RX7 yX7_trust yX7_trust, Cond.code yX7_trust cX7_trust 5 (some .int), Cond.methodLink RX7 131 yX7_ratio, Cond.methodLink RL 68 yX6_list, Cond.instanceMethod yX6_list, Cond.selects RX6 yX6_list yX6_list, Cond.code yX6_list cX6_list 3 (some .int), Cond.methodLink RX6 139 yX5_restart, Cond.instanceMethod yX5_restart, Cond.selects RX5 yX5_restart yX5_restart, Cond.code yX5_restart cX5_restart 2 none, Cond.methodLink RL 71 yX7_list, Cond.instanceMethod yX7_list, Cond.selects RX7 yX7_list yX7_list, Cond.code yX7_list cX7_list 3 (some .int), Cond.methodLink RL 72 yX6_request, Cond.instanceMethod yX6_request, Cond.selects RX6 yX6_request yX6_request, Cond.code yX6_request cX6_request 2 (some .int), Cond.methodLink RL 75 yX7_request, Cond.instanceMethod yX7_request, Cond.selects RX7 yX7_request yX7_request, Cond.code yX7_request cX7_request 2 (some .int)]
def wsL_law_r19 : List Cond := [Cond.methodLink RL 76 yX6_drop, Cond.instanceMethod yX6_drop, Cond.selects RX6 yX6_drop yX6_drop, Cond.code yX6_drop cX6_drop 1 (some .int), Cond.methodLink RL 79 yX7_drop, Cond.instanceMethod yX7_drop, Cond.selects RX7 yX7_drop yX7_drop, Cond.code yX7_drop cX7_drop 1 (some .int), Cond.methodLink RL 80 yX6_serve, Cond.instanceMethod yX6_serve, Cond.selects RX6 yX6_serve yX6_serve, Cond.code yX6_serve cX6_serve 2 (some .int), Cond.methodLink RX6 149 yX5_frontCost, Cond.instanceMethod yX5_frontCost, Cond.selects RX5 yX5_frontCost yX5_frontCost, Cond.code yX5_frontCost cX5_frontCost 4 (some .int), Cond.methodLink RX5 48 yX5_firstOrder, Cond.instanceMethod yX5_firstOrder, Cond.selects RX5 yX5_firstOrder yX5_firstOrder, Cond.code yX5_firstOrder cX5_firstOrder 3 (some .int), Cond.methodLink RX5 42 yX5_placeOf, Cond.instanceMethod yX5_placeOf, Cond.selects RX5 yX5_placeOf yX5_placeOf, Cond.code yX5_placeOf cX5_placeOf 4 (some .int)]
def wsL_law_r20 : List Cond := [Cond.methodLink RX5 52 yX5_movedToFront, Cond.instanceMethod yX5_movedToFront, Cond.selects RX5 yX5_movedToFront yX5_movedToFront, Cond.code yX5_movedToFront cX5_movedToFront 5 (some .int), Cond.methodLink RX5 45 yX5_exchanged, Cond.static yX5_exchanged, Cond.code yX5_exchanged cX5_exchanged 3 (some .int), Cond.methodLink RX6 152 yX5_firstOrder, Cond.methodLink RX6 155 yX5_stayCost, Cond.instanceMethod yX5_stayCost, Cond.selects RX5 yX5_stayCost yX5_stayCost, Cond.code yX5_stayCost cX5_stayCost 4 (some .int), Cond.methodLink RX6 158 yX5_bestStayCost, Cond.instanceMethod yX5_bestStayCost, Cond.selects RX5 yX5_bestStayCost yX5_bestStayCost, Cond.code yX5_bestStayCost cX5_bestStayCost 3 (some .int), Cond.constant RX5 55 (1000000), Cond.methodLink RX5 60 Lib.Math.min.name, Cond.methodLink RX5 56 yX5_stayCost, Cond.methodLink RX6 161 yX5_bestCost, Cond.instanceMethod yX5_bestCost, Cond.selects RX5 yX5_bestCost yX5_bestCost, Cond.code yX5_bestCost cX5_bestCost 3 (some .int), Cond.methodLink RX5 65 yX5_exchangeNeighbours]
def wsL_law_r21 : List Cond := [Cond.instanceMethod yX5_exchangeNeighbours, Cond.selects RX5 yX5_exchangeNeighbours yX5_exchangeNeighbours, Cond.code yX5_exchangeNeighbours cX5_exchangeNeighbours 4 none, Cond.methodLink RX5 75 yX5_exchangeIn, Cond.instanceMethod yX5_exchangeIn, Cond.selects RX5 yX5_exchangeIn yX5_exchangeIn, Cond.code yX5_exchangeIn cX5_exchangeIn 5 (some .boolean), Cond.methodLink RX5 68 yX5_payPlaces, Cond.instanceMethod yX5_payPlaces, Cond.selects RX5 yX5_payPlaces yX5_payPlaces, Cond.code yX5_payPlaces cX5_payPlaces 3 none, Cond.methodLink RX5 72 yX5_moveAhead, Cond.instanceMethod yX5_moveAhead, Cond.selects RX5 yX5_moveAhead yX5_moveAhead, Cond.code yX5_moveAhead cX5_moveAhead 5 none, Cond.methodLink RL 83 yX7_serve, Cond.instanceMethod yX7_serve, Cond.selects RX7 yX7_serve yX7_serve, Cond.code yX7_serve cX7_serve 8 (some .int), Cond.fieldLink RX7 135 "RentOrBuyModel" "orders" "I", Cond.methodLink RX7 148 yX7_frontCost, Cond.instanceMethod yX7_frontCost, Cond.selects RX7 yX7_frontCost yX7_frontCost, Cond.code yX7_frontCost cX7_frontCost 5 (some .int)]
def wsL_law_r22 : List Cond := [Cond.methodLink RX7 151 yX7_ordersOf, Cond.instanceMethod yX7_ordersOf, Cond.selects RX7 yX7_ordersOf yX7_ordersOf, Cond.code yX7_ordersOf cX7_ordersOf 6 none, Cond.methodLink RX7 154 yX7_staysCost, Cond.instanceMethod yX7_staysCost, Cond.selects RX7 yX7_staysCost yX7_staysCost, Cond.code yX7_staysCost cX7_staysCost 4 (some .int), Cond.methodLink RX7 138 yX7_placeIn, Cond.instanceMethod yX7_placeIn, Cond.selects RX7 yX7_placeIn yX7_placeIn, Cond.code yX7_placeIn cX7_placeIn 4 (some .int), Cond.methodLink RX7 157 yX7_bestCost, Cond.instanceMethod yX7_bestCost, Cond.selects RX7 yX7_bestCost yX7_bestCost, Cond.code yX7_bestCost cX7_bestCost 5 (some .int), Cond.constant RX7 141 (1000000), Cond.methodLink RX7 142 yX7_apart, Cond.instanceMethod yX7_apart, Cond.selects RX7 yX7_apart yX7_apart, Cond.code yX7_apart cX7_apart 6 (some .int), Cond.methodLink RX7 145 yX7_comesOf, Cond.instanceMethod yX7_comesOf, Cond.selects RX7 yX7_comesOf yX7_comesOf]
def wsL_law_r23 : List Cond := [Cond.code yX7_comesOf cX7_comesOf 8 (some .boolean), Cond.methodLink RL 84 yX6_at, Cond.instanceMethod yX6_at, Cond.selects RX6 yX6_at yX6_at, Cond.code yX6_at cX6_at 2 (some .int), Cond.methodLink RX6 164 yX5_frontOrder, Cond.instanceMethod yX5_frontOrder, Cond.selects RX5 yX5_frontOrder yX5_frontOrder, Cond.code yX5_frontOrder cX5_frontOrder 3 (some .int), Cond.methodLink RX6 167 yX5_thingAt, Cond.methodLink RL 87 yX7_at, Cond.instanceMethod yX7_at, Cond.selects RX7 yX7_at yX7_at, Cond.code yX7_at cX7_at 3 (some .int), Cond.methodLink RL 88 yX6_count, Cond.instanceMethod yX6_count, Cond.selects RX6 yX6_count yX6_count, Cond.code yX6_count cX6_count 2 (some .int), Cond.methodLink RX6 170 ⟨"RentOrBuy$Flat", "kindNumber", "()I"⟩, Cond.sameMethod "RentOrBuy$Flat" "RentOrBuy$Flat" "kindNumber" "()I", Cond.instanceMethod ⟨"RentOrBuy$Flat", "kindNumber", "()I"⟩, Cond.selects RX0 ⟨"RentOrBuy$Flat", "kindNumber", "()I"⟩ yX0_kindNumber, Cond.instanceMethod yX0_kindNumber, Cond.code yX0_kindNumber cX0_kindNumber 1 (some .int)]
def wsL_law_r24 : List Cond := [Cond.code yX1_kindNumber cX1_kindNumber 1 (some .int), Cond.methodLink RX6 170 yX1_kindNumber, Cond.instanceMethod yX1_kindNumber, Cond.selects RX1 yX1_kindNumber yX1_kindNumber, Cond.selects RX4 ⟨"RentOrBuy$Flat", "kindNumber", "()I"⟩ yX4_kindNumber, Cond.instanceMethod yX4_kindNumber, Cond.code yX4_kindNumber cX4_kindNumber 1 (some .int), Cond.methodLink RL 91 yX7_count, Cond.instanceMethod yX7_count, Cond.selects RX7 yX7_count yX7_count, Cond.code yX7_count cX7_count 2 (some .int), Cond.methodLink RL 92 yX6_trace, Cond.instanceMethod yX6_trace, Cond.selects RX6 yX6_trace yX6_trace, Cond.code yX6_trace cX6_trace 1 (some .long), Cond.methodLink RL 96 yX7_trace, Cond.instanceMethod yX7_trace, Cond.selects RX7 yX7_trace yX7_trace, Cond.code yX7_trace cX7_trace 1 (some .long)]
def wsL_law : List Cond := (wsL_law_r1 ++ (wsL_law_r2 ++ (wsL_law_r3 ++ (wsL_law_r4 ++ (wsL_law_r5 ++ (wsL_law_r6 ++ (wsL_law_r7 ++ (wsL_law_r8 ++ (wsL_law_r9 ++ (wsL_law_r10 ++ (wsL_law_r11 ++ (wsL_law_r12 ++ (wsL_law_r13 ++ (wsL_law_r14 ++ (wsL_law_r15 ++ (wsL_law_r16 ++ (wsL_law_r17 ++ (wsL_law_r18 ++ (wsL_law_r19 ++ (wsL_law_r20 ++ (wsL_law_r21 ++ (wsL_law_r22 ++ (wsL_law_r23 ++ wsL_law_r24))))))))))))))))))))))) ++ wsX60 ++ wsX70 ++ wsX30 ++ wsX20 ++ wsX50 ++ wsX10 ++ wsX00 ++ wsX40 ++ ([] : List Cond)
end
section
set_option maxRecDepth 20000 in
theorem lq_wsL_law_r1 : ∀ w ∈ wsL_law_r1, w ∈ lw_tbl := fun w h => (goodIn_r (big := lw_tbl) wsL_law_r1 [39, 40, 30, 458, 459, 35, 41, 42, 43, 44, 45, 46, 47, 48, 31, 135, 81, 82, 33, 136, 96, 97, 34, 137] (by decide +kernel) (by decide +kernel) w h).1
set_option maxRecDepth 20000 in
theorem lq_wsL_law_r2 : ∀ w ∈ wsL_law_r2, w ∈ lw_tbl := fun w h => (goodIn_r (big := lw_tbl) wsL_law_r2 [138, 49, 50, 51, 52, 67, 53, 54, 32, 70, 80, 72, 55, 56, 57, 58, 59, 60, 83, 84, 85, 86, 87, 89] (by decide +kernel) (by decide +kernel) w h).1
set_option maxRecDepth 20000 in
theorem lq_wsL_law_r3 : ∀ w ∈ wsL_law_r3, w ∈ lw_tbl := fun w h => (goodIn_r (big := lw_tbl) wsL_law_r3 [98, 99, 100, 101, 117, 120, 121, 113, 115, 102, 104, 0, 105, 119, 106, 108, 1, 109, 110, 111, 112, 460, 461, 462] (by decide +kernel) (by decide +kernel) w h).1
set_option maxRecDepth 20000 in
theorem lq_wsL_law_r4 : ∀ w ∈ wsL_law_r4, w ∈ lw_tbl := fun w h => (goodIn_r (big := lw_tbl) wsL_law_r4 [463, 465, 467, 468, 469, 470, 471, 472, 474, 476, 477, 479, 480, 481, 473, 148, 149, 150, 151, 155, 157, 158, 36, 169] (by decide +kernel) (by decide +kernel) w h).1
set_option maxRecDepth 20000 in
theorem lq_wsL_law_r5 : ∀ w ∈ wsL_law_r5, w ∈ lw_tbl := fun w h => (goodIn_r (big := lw_tbl) wsL_law_r5 [170, 37, 152, 153, 154, 156, 159, 160, 161, 163, 162, 171, 172, 173, 175, 174, 182, 183, 184, 185, 186, 189, 187, 190] (by decide +kernel) (by decide +kernel) w h).1
set_option maxRecDepth 20000 in
theorem lq_wsL_law_r6 : ∀ w ∈ wsL_law_r6, w ∈ lw_tbl := fun w h => (goodIn_r (big := lw_tbl) wsL_law_r6 [191, 192, 197, 198, 38, 199, 193, 692, 181, 194, 195, 196, 168, 187, 201, 186, 188, 200, 202, 203, 204, 205, 206, 519] (by decide +kernel) (by decide +kernel) w h).1
set_option maxRecDepth 20000 in
theorem lq_wsL_law_r7 : ∀ w ∈ wsL_law_r7, w ∈ lw_tbl := fun w h => (goodIn_r (big := lw_tbl) wsL_law_r7 [520, 521, 522, 464, 466, 523, 524, 525, 526, 528, 9, 529, 530, 532, 10, 533, 534, 536, 11, 537, 207, 208, 209, 210] (by decide +kernel) (by decide +kernel) w h).1
set_option maxRecDepth 20000 in
theorem lq_wsL_law_r8 : ∀ w ∈ wsL_law_r8, w ∈ lw_tbl := fun w h => (goodIn_r (big := lw_tbl) wsL_law_r8 [211, 212, 213, 214, 538, 539, 540, 541, 215, 216, 217, 218, 219, 222, 220, 223, 224, 225, 226, 693, 227, 228, 229, 220] (by decide +kernel) (by decide +kernel) w h).1
set_option maxRecDepth 20000 in
theorem lq_wsL_law_r9 : ∀ w ∈ wsL_law_r9, w ∈ lw_tbl := fun w h => (goodIn_r (big := lw_tbl) wsL_law_r9 [231, 219, 221, 230, 232, 232, 542, 543, 544, 545, 475, 546, 547, 233, 234, 235, 236, 237, 238, 239, 240, 242, 243, 244] (by decide +kernel) (by decide +kernel) w h).1
set_option maxRecDepth 20000 in
theorem lq_wsL_law_r10 : ∀ w ∈ wsL_law_r10, w ∈ lw_tbl := fun w h => (goodIn_r (big := lw_tbl) wsL_law_r10 [245, 246, 247, 248, 249, 548, 549, 550, 551, 552, 554, 12, 555, 556, 558, 13, 559, 560, 562, 14, 563, 250, 251, 252] (by decide +kernel) (by decide +kernel) w h).1
set_option maxRecDepth 20000 in
theorem lq_wsL_law_r11 : ∀ w ∈ wsL_law_r11, w ∈ lw_tbl := fun w h => (goodIn_r (big := lw_tbl) wsL_law_r11 [253, 564, 565, 566, 567, 254, 255, 256, 257, 258, 259, 260, 261, 262, 263, 264, 265, 266, 267, 268, 269, 270, 271, 273] (by decide +kernel) (by decide +kernel) w h).1
set_option maxRecDepth 20000 in
theorem lq_wsL_law_r12 : ∀ w ∈ wsL_law_r12, w ∈ lw_tbl := fun w h => (goodIn_r (big := lw_tbl) wsL_law_r12 [274, 275, 276, 277, 278, 279, 280, 568, 569, 570, 571, 572, 574, 15, 575, 576, 577, 578, 281, 282, 283, 284, 285, 286] (by decide +kernel) (by decide +kernel) w h).1
set_option maxRecDepth 20000 in
theorem lq_wsL_law_r13 : ∀ w ∈ wsL_law_r13, w ∈ lw_tbl := fun w h => (goodIn_r (big := lw_tbl) wsL_law_r13 [287, 288, 289, 579, 580, 581, 582, 583, 585, 16, 586, 290, 291, 292, 293, 294, 295, 296, 587, 588, 589, 590, 297, 298] (by decide +kernel) (by decide +kernel) w h).1
set_option maxRecDepth 20000 in
theorem lq_wsL_law_r14 : ∀ w ∈ wsL_law_r14, w ∈ lw_tbl := fun w h => (goodIn_r (big := lw_tbl) wsL_law_r14 [299, 300, 301, 305, 302, 303, 304, 306, 307, 308, 309, 310, 311, 591, 592, 593, 594, 595, 600, 596, 598, 17, 599, 601] (by decide +kernel) (by decide +kernel) w h).1
set_option maxRecDepth 20000 in
theorem lq_wsL_law_r15 : ∀ w ∈ wsL_law_r15, w ∈ lw_tbl := fun w h => (goodIn_r (big := lw_tbl) wsL_law_r15 [603, 18, 604, 312, 313, 314, 315, 316, 317, 318, 319, 321, 326, 327, 328, 320, 322, 324, 325, 329, 330, 331, 332, 339] (by decide +kernel) (by decide +kernel) w h).1
set_option maxRecDepth 20000 in
theorem lq_wsL_law_r16 : ∀ w ∈ wsL_law_r16, w ∈ lw_tbl := fun w h => (goodIn_r (big := lw_tbl) wsL_law_r16 [340, 341, 333, 335, 2, 336, 337, 605, 606, 607, 608, 609, 611, 19, 612, 613, 614, 616, 20, 617, 618, 342, 343, 344] (by decide +kernel) (by decide +kernel) w h).1
set_option maxRecDepth 20000 in
theorem lq_wsL_law_r17 : ∀ w ∈ wsL_law_r17, w ∈ lw_tbl := fun w h => (goodIn_r (big := lw_tbl) wsL_law_r17 [345, 346, 347, 348, 349, 351, 354, 350, 619, 620, 621, 622, 623, 624, 625, 626, 628, 21, 629, 355, 356, 357, 358, 630] (by decide +kernel) (by decide +kernel) w h).1
set_option maxRecDepth 20000 in
theorem lq_wsL_law_r18 : ∀ w ∈ wsL_law_r18, w ∈ lw_tbl := fun w h => (goodIn_r (big := lw_tbl) wsL_law_r18 [631, 632, 633, 634, 359, 360, 361, 362, 363, 364, 365, 366, 635, 636, 637, 638, 367, 368, 369, 370, 639, 640, 641, 642] (by decide +kernel) (by decide +kernel) w h).1
set_option maxRecDepth 20000 in
theorem lq_wsL_law_r19 : ∀ w ∈ wsL_law_r19, w ∈ lw_tbl := fun w h => (goodIn_r (big := lw_tbl) wsL_law_r19 [371, 372, 373, 374, 643, 644, 645, 646, 375, 376, 377, 378, 379, 380, 381, 382, 383, 384, 385, 386, 387, 389, 3, 390] (by decide +kernel) (by decide +kernel) w h).1
set_option maxRecDepth 20000 in
theorem lq_wsL_law_r20 : ∀ w ∈ wsL_law_r20, w ∈ lw_tbl := fun w h => (goodIn_r (big := lw_tbl) wsL_law_r20 [391, 393, 4, 394, 395, 396, 397, 398, 399, 400, 401, 402, 403, 404, 405, 406, 407, 409, 408, 410, 411, 412, 413, 414] (by decide +kernel) (by decide +kernel) w h).1
set_option maxRecDepth 20000 in
theorem lq_wsL_law_r21 : ∀ w ∈ wsL_law_r21, w ∈ lw_tbl := fun w h => (goodIn_r (big := lw_tbl) wsL_law_r21 [416, 5, 417, 418, 420, 6, 421, 422, 424, 7, 425, 426, 428, 8, 429, 647, 648, 649, 650, 478, 651, 653, 22, 654] (by decide +kernel) (by decide +kernel) w h).1
set_option maxRecDepth 20000 in
theorem lq_wsL_law_r22 : ∀ w ∈ wsL_law_r22, w ∈ lw_tbl := fun w h => (goodIn_r (big := lw_tbl) wsL_law_r22 [655, 657, 23, 658, 659, 661, 24, 662, 663, 665, 25, 666, 667, 669, 26, 670, 671, 672, 674, 27, 675, 676, 678, 28] (by decide +kernel) (by decide +kernel) w h).1
set_option maxRecDepth 20000 in
theorem lq_wsL_law_r23 : ∀ w ∈ wsL_law_r23, w ∈ lw_tbl := fun w h => (goodIn_r (big := lw_tbl) wsL_law_r23 [679, 430, 431, 432, 433, 434, 435, 436, 437, 438, 680, 681, 682, 683, 439, 440, 441, 442, 443, 446, 444, 447, 448, 449] (by decide +kernel) (by decide +kernel) w h).1
set_option maxRecDepth 20000 in
theorem lq_wsL_law_r24 : ∀ w ∈ wsL_law_r24, w ∈ lw_tbl := fun w h => (goodIn_r (big := lw_tbl) wsL_law_r24 [453, 443, 444, 445, 450, 451, 452, 684, 685, 686, 687, 454, 455, 456, 457, 688, 689, 690, 691] (by decide +kernel) (by decide +kernel) w h).1
set_option maxRecDepth 20000 in
theorem lq_wsX00 : ∀ w ∈ wsX00, w ∈ lw_tbl := fun w h => (goodIn_r (big := lw_tbl) wsX00 [178, 179, 180, 176] (by decide +kernel) (by decide +kernel) w h).1
set_option maxRecDepth 20000 in
theorem lq_wsX10 : ∀ w ∈ wsX10, w ∈ lw_tbl := fun w h => (goodIn_r (big := lw_tbl) wsX10 [62, 64] (by decide +kernel) (by decide +kernel) w h).1
set_option maxRecDepth 20000 in
theorem lq_wsX20 : ∀ w ∈ wsX20, w ∈ lw_tbl := fun w h => (goodIn_r (big := lw_tbl) wsX20 [91, 93] (by decide +kernel) (by decide +kernel) w h).1
set_option maxRecDepth 20000 in
theorem lq_wsX30 : ∀ w ∈ wsX30, w ∈ lw_tbl := fun w h => (goodIn_r (big := lw_tbl) wsX30 [73, 75, 77] (by decide +kernel) (by decide +kernel) w h).1
set_option maxRecDepth 20000 in
theorem lq_wsX40 : ∀ w ∈ wsX40, w ∈ lw_tbl := fun w h => (goodIn_r (big := lw_tbl) wsX40 [166, 167, 164] (by decide +kernel) (by decide +kernel) w h).1
set_option maxRecDepth 20000 in
theorem lq_wsX50 : ∀ w ∈ wsX50, w ∈ lw_tbl := fun w h => (goodIn_r (big := lw_tbl) wsX50 [122, 124, 126, 128, 130, 132] (by decide +kernel) (by decide +kernel) w h).1
set_option maxRecDepth 20000 in
theorem lq_wsX60 : ∀ w ∈ wsX60, w ∈ lw_tbl := fun w h => (goodIn_r (big := lw_tbl) wsX60 [139, 141, 143, 145] (by decide +kernel) (by decide +kernel) w h).1
set_option maxRecDepth 20000 in
theorem lq_wsX70 : ∀ w ∈ wsX70, w ∈ lw_tbl := fun w h => (goodIn_r (big := lw_tbl) wsX70 [482, 484, 486, 488, 490, 492, 494, 496, 498, 500, 502, 504, 506, 508, 510, 512, 514, 516] (by decide +kernel) (by decide +kernel) w h).1
theorem wsL_law_in : ∀ w ∈ wsL_law, w ∈ lw_tbl := fun w h => (List.mem_append.mp h).elim (fun h => (List.mem_append.mp h).elim (fun h => (List.mem_append.mp h).elim (fun h => (List.mem_append.mp h).elim (fun h => (List.mem_append.mp h).elim (fun h => (List.mem_append.mp h).elim (fun h => (List.mem_append.mp h).elim (fun h => (List.mem_append.mp h).elim (fun h => (List.mem_append.mp h).elim (fun h => (List.mem_append.mp h).elim (fun h => lq_wsL_law_r1 w h) (fun h => (List.mem_append.mp h).elim (fun h => lq_wsL_law_r2 w h) (fun h => (List.mem_append.mp h).elim (fun h => lq_wsL_law_r3 w h) (fun h => (List.mem_append.mp h).elim (fun h => lq_wsL_law_r4 w h) (fun h => (List.mem_append.mp h).elim (fun h => lq_wsL_law_r5 w h) (fun h => (List.mem_append.mp h).elim (fun h => lq_wsL_law_r6 w h) (fun h => (List.mem_append.mp h).elim (fun h => lq_wsL_law_r7 w h) (fun h => (List.mem_append.mp h).elim (fun h => lq_wsL_law_r8 w h) (fun h => (List.mem_append.mp h).elim (fun h => lq_wsL_law_r9 w h) (fun h => (List.mem_append.mp h).elim (fun h => lq_wsL_law_r10 w h) (fun h => (List.mem_append.mp h).elim (fun h => lq_wsL_law_r11 w h) (fun h => (List.mem_append.mp h).elim (fun h => lq_wsL_law_r12 w h) (fun h => (List.mem_append.mp h).elim (fun h => lq_wsL_law_r13 w h) (fun h => (List.mem_append.mp h).elim (fun h => lq_wsL_law_r14 w h) (fun h => (List.mem_append.mp h).elim (fun h => lq_wsL_law_r15 w h) (fun h => (List.mem_append.mp h).elim (fun h => lq_wsL_law_r16 w h) (fun h => (List.mem_append.mp h).elim (fun h => lq_wsL_law_r17 w h) (fun h => (List.mem_append.mp h).elim (fun h => lq_wsL_law_r18 w h) (fun h => (List.mem_append.mp h).elim (fun h => lq_wsL_law_r19 w h) (fun h => (List.mem_append.mp h).elim (fun h => lq_wsL_law_r20 w h) (fun h => (List.mem_append.mp h).elim (fun h => lq_wsL_law_r21 w h) (fun h => (List.mem_append.mp h).elim (fun h => lq_wsL_law_r22 w h) (fun h => (List.mem_append.mp h).elim (fun h => lq_wsL_law_r23 w h) (fun h => lq_wsL_law_r24 w h)))))))))))))))))))))))) (fun h => lq_wsX60 w h)) (fun h => lq_wsX70 w h)) (fun h => lq_wsX30 w h)) (fun h => lq_wsX20 w h)) (fun h => lq_wsX50 w h)) (fun h => lq_wsX10 w h)) (fun h => lq_wsX00 w h)) (fun h => lq_wsX40 w h)) (fun h => absurd h List.not_mem_nil)
theorem inlX0 : ∀ w ∈ wsX00, w ∈ wsL_law := fun _ h => List.mem_append_left _ (List.mem_append_left _ (List.mem_append_right _ h))
theorem inX0 : ∀ w ∈ wsX00, w ∈ lw_tbl := fun w h => wsL_law_in w (inlX0 w h)
theorem inlX1 : ∀ w ∈ wsX10, w ∈ wsL_law := fun _ h => List.mem_append_left _ (List.mem_append_left _ (List.mem_append_left _ (List.mem_append_right _ h)))
theorem inX1 : ∀ w ∈ wsX10, w ∈ lw_tbl := fun w h => wsL_law_in w (inlX1 w h)
theorem inlX2 : ∀ w ∈ wsX20, w ∈ wsL_law := fun _ h => List.mem_append_left _ (List.mem_append_left _ (List.mem_append_left _ (List.mem_append_left _ (List.mem_append_left _ (List.mem_append_right _ h)))))
theorem inX2 : ∀ w ∈ wsX20, w ∈ lw_tbl := fun w h => wsL_law_in w (inlX2 w h)
theorem inlX3 : ∀ w ∈ wsX30, w ∈ wsL_law := fun _ h => List.mem_append_left _ (List.mem_append_left _ (List.mem_append_left _ (List.mem_append_left _ (List.mem_append_left _ (List.mem_append_left _ (List.mem_append_right _ h))))))
theorem inX3 : ∀ w ∈ wsX30, w ∈ lw_tbl := fun w h => wsL_law_in w (inlX3 w h)
theorem inlX4 : ∀ w ∈ wsX40, w ∈ wsL_law := fun _ h => List.mem_append_left _ (List.mem_append_right _ h)
theorem inX4 : ∀ w ∈ wsX40, w ∈ lw_tbl := fun w h => wsL_law_in w (inlX4 w h)
theorem inlX5 : ∀ w ∈ wsX50, w ∈ wsL_law := fun _ h => List.mem_append_left _ (List.mem_append_left _ (List.mem_append_left _ (List.mem_append_left _ (List.mem_append_right _ h))))
theorem inX5 : ∀ w ∈ wsX50, w ∈ lw_tbl := fun w h => wsL_law_in w (inlX5 w h)
theorem inlX6 : ∀ w ∈ wsX60, w ∈ wsL_law := fun _ h => List.mem_append_left _ (List.mem_append_left _ (List.mem_append_left _ (List.mem_append_left _ (List.mem_append_left _ (List.mem_append_left _ (List.mem_append_left _ (List.mem_append_left _ (List.mem_append_right _ h))))))))
theorem inX6 : ∀ w ∈ wsX60, w ∈ lw_tbl := fun w h => wsL_law_in w (inlX6 w h)
theorem inlX7 : ∀ w ∈ wsX70, w ∈ wsL_law := fun _ h => List.mem_append_left _ (List.mem_append_left _ (List.mem_append_left _ (List.mem_append_left _ (List.mem_append_left _ (List.mem_append_left _ (List.mem_append_left _ (List.mem_append_right _ h)))))))
theorem inX7 : ∀ w ∈ wsX70, w ∈ lw_tbl := fun w h => wsL_law_in w (inlX7 w h)
theorem inJ9 : ∀ w ∈ wsJ90, w ∈ lw_tbl := by decide +kernel
end
section
set_option maxRecDepth 20000 in
theorem ggX0_init_X4_init : GoodIn wsX0_init wsX4_init := goodIn_r _ [5, 6, 7, 8, 9, 10, 11, 12, 13, 14, 15, 16, 17, 18, 19, 20, 21, 22, 23, 24] (by decide +kernel) (by decide +kernel)
set_option maxRecDepth 20000 in
theorem gX0_init_X4_init : GoodIn wsX0_init (wsX4_init) := ggX0_init_X4_init
theorem dX0_init_0 : decode cX0_init 0 = .ok (.aload_n 0, 1) := by decide +kernel
theorem dX0_init_1 : decode cX0_init 1 = .ok (.iload_n 1, 1) := by decide +kernel
theorem dX0_init_2 : decode cX0_init 2 = .ok (.iload_n 2, 1) := by decide +kernel
theorem dX0_init_3 : decode cX0_init 3 = .ok (.iload 4, 2) := by decide +kernel
theorem dX0_init_5 : decode cX0_init 5 = .ok (.invokespecial 3, 3) := by decide +kernel
theorem dX0_init_8 : decode cX0_init 8 = .ok (.aload_n 0, 1) := by decide +kernel
theorem dX0_init_9 : decode cX0_init 9 = .ok (.iload_n 3, 1) := by decide +kernel
theorem dX0_init_10 : decode cX0_init 10 = .ok (.putfield 9, 3) := by decide +kernel
theorem dX0_init_13 : decode cX0_init 13 = .ok (.return_, 1) := by decide +kernel
theorem dX0_kindNumber_0 : decode cX0_kindNumber 0 = .ok (.iconst 2, 1) := by decide +kernel
theorem dX0_kindNumber_1 : decode cX0_kindNumber 1 = .ok (.ireturn, 1) := by decide +kernel
set_option maxRecDepth 20000 in
theorem ggX0_rentOf_X4_rentOf : GoodIn wsX0_rentOf wsX4_rentOf := goodIn_r _ [11, 12, 13, 14, 15, 16, 17, 18, 19, 20, 21, 22, 23, 24, 25, 26, 27, 28] (by decide +kernel) (by decide +kernel)
set_option maxRecDepth 20000 in
theorem gX0_rentOf_X4_rentOf_s15 : GoodIn wsX0_rentOf (va_wsSU RX0 15 yX4_rentOf wsX4_rentOf) := goodIn_app (goodIn_of _ (by decide +kernel)) ggX0_rentOf_X4_rentOf
theorem dX0_rentOf_0 : decode cX0_rentOf 0 = .ok (.aload_n 0, 1) := by decide +kernel
theorem dX0_rentOf_1 : decode cX0_rentOf 1 = .ok (.iload_n 1, 1) := by decide +kernel
theorem dX0_rentOf_2 : decode cX0_rentOf 2 = .ok (.invokespecial 15, 3) := by decide +kernel
theorem dX0_rentOf_5 : decode cX0_rentOf 5 = .ok (.aload_n 0, 1) := by decide +kernel
theorem dX0_rentOf_6 : decode cX0_rentOf 6 = .ok (.getfield 9, 3) := by decide +kernel
theorem dX0_rentOf_9 : decode cX0_rentOf 9 = .ok (.invokestatic 19, 3) := by decide +kernel
theorem dX0_rentOf_12 : decode cX0_rentOf 12 = .ok (.ireturn, 1) := by decide +kernel
set_option maxRecDepth 20000 in
theorem ggX0_bodiesAsked_X4_bodiesAsked : GoodIn wsX0_bodiesAsked wsX4_bodiesAsked := goodIn_r _ [6, 7, 8, 9, 10, 11, 12] (by decide +kernel) (by decide +kernel)
set_option maxRecDepth 20000 in
theorem gX0_bodiesAsked_X4_bodiesAsked_s25 : GoodIn wsX0_bodiesAsked (va_wsSU RX0 25 yX4_bodiesAsked wsX4_bodiesAsked) := goodIn_app (goodIn_of _ (by decide +kernel)) ggX0_bodiesAsked_X4_bodiesAsked
theorem dX0_bodiesAsked_0 : decode cX0_bodiesAsked 0 = .ok (.aload_n 0, 1) := by decide +kernel
theorem dX0_bodiesAsked_1 : decode cX0_bodiesAsked 1 = .ok (.invokespecial 25, 3) := by decide +kernel
theorem dX0_bodiesAsked_4 : decode cX0_bodiesAsked 4 = .ok (.bipush 100, 2) := by decide +kernel
theorem dX0_bodiesAsked_6 : decode cX0_bodiesAsked 6 = .ok (.iadd, 1) := by decide +kernel
theorem dX0_bodiesAsked_7 : decode cX0_bodiesAsked 7 = .ok (.ireturn, 1) := by decide +kernel
theorem dX1_init_0 : decode cX1_init 0 = .ok (.aload_n 0, 1) := by decide +kernel
theorem dX1_init_1 : decode cX1_init 1 = .ok (.invokespecial 3, 3) := by decide +kernel
theorem dX1_init_4 : decode cX1_init 4 = .ok (.aload_n 0, 1) := by decide +kernel
theorem dX1_init_5 : decode cX1_init 5 = .ok (.iload_n 1, 1) := by decide +kernel
theorem dX1_init_6 : decode cX1_init 6 = .ok (.putfield 9, 3) := by decide +kernel
theorem dX1_init_9 : decode cX1_init 9 = .ok (.aload_n 0, 1) := by decide +kernel
theorem dX1_init_10 : decode cX1_init 10 = .ok (.iload_n 2, 1) := by decide +kernel
theorem dX1_init_11 : decode cX1_init 11 = .ok (.putfield 15, 3) := by decide +kernel
theorem dX1_init_14 : decode cX1_init 14 = .ok (.return_, 1) := by decide +kernel
theorem dX1_kindNumber_0 : decode cX1_kindNumber 0 = .ok (.iconst 0, 1) := by decide +kernel
theorem dX1_kindNumber_1 : decode cX1_kindNumber 1 = .ok (.ireturn, 1) := by decide +kernel
theorem dX1_rentOf_0 : decode cX1_rentOf 0 = .ok (.aload_n 0, 1) := by decide +kernel
theorem dX1_rentOf_1 : decode cX1_rentOf 1 = .ok (.getfield 9, 3) := by decide +kernel
theorem dX1_rentOf_4 : decode cX1_rentOf 4 = .ok (.ireturn, 1) := by decide +kernel
theorem dX1_bodiesAsked_0 : decode cX1_bodiesAsked 0 = .ok (.iconst 1, 1) := by decide +kernel
theorem dX1_bodiesAsked_1 : decode cX1_bodiesAsked 1 = .ok (.ireturn, 1) := by decide +kernel
theorem dX2_init_0 : decode cX2_init 0 = .ok (.aload_n 0, 1) := by decide +kernel
theorem dX2_init_1 : decode cX2_init 1 = .ok (.invokespecial 3, 3) := by decide +kernel
theorem dX2_init_4 : decode cX2_init 4 = .ok (.aload_n 0, 1) := by decide +kernel
theorem dX2_init_5 : decode cX2_init 5 = .ok (.bipush 42, 2) := by decide +kernel
theorem dX2_init_7 : decode cX2_init 7 = .ok (.newarray .int, 2) := by decide +kernel
theorem dX2_init_9 : decode cX2_init 9 = .ok (.putfield 9, 3) := by decide +kernel
theorem dX2_init_12 : decode cX2_init 12 = .ok (.aload_n 0, 1) := by decide +kernel
theorem dX2_init_13 : decode cX2_init 13 = .ok (.bipush 42, 2) := by decide +kernel
theorem dX2_init_15 : decode cX2_init 15 = .ok (.newarray .int, 2) := by decide +kernel
theorem dX2_init_17 : decode cX2_init 17 = .ok (.putfield 15, 3) := by decide +kernel
theorem dX2_init_20 : decode cX2_init 20 = .ok (.return_, 1) := by decide +kernel
theorem dX2_clearAll_0 : decode cX2_clearAll 0 = .ok (.iconst 0, 1) := by decide +kernel
theorem dX2_clearAll_1 : decode cX2_clearAll 1 = .ok (.istore_n 1, 1) := by decide +kernel
theorem dX2_clearAll_2 : decode cX2_clearAll 2 = .ok (.iload_n 1, 1) := by decide +kernel
theorem dX2_clearAll_3 : decode cX2_clearAll 3 = .ok (.bipush 42, 2) := by decide +kernel
theorem dX2_clearAll_5 : decode cX2_clearAll 5 = .ok (.if_icmp .ge 23, 3) := by decide +kernel
theorem dX2_clearAll_8 : decode cX2_clearAll 8 = .ok (.aload_n 0, 1) := by decide +kernel
theorem dX2_clearAll_9 : decode cX2_clearAll 9 = .ok (.getfield 9, 3) := by decide +kernel
theorem dX2_clearAll_12 : decode cX2_clearAll 12 = .ok (.iload_n 1, 1) := by decide +kernel
theorem dX2_clearAll_13 : decode cX2_clearAll 13 = .ok (.iconst 0, 1) := by decide +kernel
theorem dX2_clearAll_14 : decode cX2_clearAll 14 = .ok (.iastore, 1) := by decide +kernel
theorem dX2_clearAll_15 : decode cX2_clearAll 15 = .ok (.aload_n 0, 1) := by decide +kernel
theorem dX2_clearAll_16 : decode cX2_clearAll 16 = .ok (.getfield 15, 3) := by decide +kernel
theorem dX2_clearAll_19 : decode cX2_clearAll 19 = .ok (.iload_n 1, 1) := by decide +kernel
theorem dX2_clearAll_20 : decode cX2_clearAll 20 = .ok (.iconst 0, 1) := by decide +kernel
theorem dX2_clearAll_21 : decode cX2_clearAll 21 = .ok (.iastore, 1) := by decide +kernel
theorem dX2_clearAll_22 : decode cX2_clearAll 22 = .ok (.iinc 1 1, 3) := by decide +kernel
theorem dX2_clearAll_25 : decode cX2_clearAll 25 = .ok (.goto (-23), 3) := by decide +kernel
theorem dX2_clearAll_28 : decode cX2_clearAll 28 = .ok (.return_, 1) := by decide +kernel
theorem dX2_replace_0 : decode cX2_replace 0 = .ok (.aload_n 0, 1) := by decide +kernel
theorem dX2_replace_1 : decode cX2_replace 1 = .ok (.iload_n 1, 1) := by decide +kernel
theorem dX2_replace_2 : decode cX2_replace 2 = .ok (.iaload, 1) := by decide +kernel
theorem dX2_replace_3 : decode cX2_replace 3 = .ok (.istore_n 3, 1) := by decide +kernel
theorem dX2_replace_4 : decode cX2_replace 4 = .ok (.aload_n 0, 1) := by decide +kernel
theorem dX2_replace_5 : decode cX2_replace 5 = .ok (.iload_n 1, 1) := by decide +kernel
theorem dX2_replace_6 : decode cX2_replace 6 = .ok (.iload_n 2, 1) := by decide +kernel
theorem dX2_replace_7 : decode cX2_replace 7 = .ok (.iastore, 1) := by decide +kernel
theorem dX2_replace_8 : decode cX2_replace 8 = .ok (.iload_n 3, 1) := by decide +kernel
theorem dX2_replace_9 : decode cX2_replace 9 = .ok (.ireturn, 1) := by decide +kernel
theorem dX2_total_0 : decode cX2_total 0 = .ok (.iconst 0, 1) := by decide +kernel
theorem dX2_total_1 : decode cX2_total 1 = .ok (.istore_n 1, 1) := by decide +kernel
theorem dX2_total_2 : decode cX2_total 2 = .ok (.aload_n 0, 1) := by decide +kernel
theorem dX2_total_3 : decode cX2_total 3 = .ok (.astore_n 2, 1) := by decide +kernel
theorem dX2_total_4 : decode cX2_total 4 = .ok (.aload_n 2, 1) := by decide +kernel
theorem dX2_total_5 : decode cX2_total 5 = .ok (.arraylength, 1) := by decide +kernel
theorem dX2_total_6 : decode cX2_total 6 = .ok (.istore_n 3, 1) := by decide +kernel
theorem dX2_total_7 : decode cX2_total 7 = .ok (.iconst 0, 1) := by decide +kernel
theorem dX2_total_8 : decode cX2_total 8 = .ok (.istore 4, 2) := by decide +kernel
theorem dX2_total_10 : decode cX2_total 10 = .ok (.iload 4, 2) := by decide +kernel
theorem dX2_total_12 : decode cX2_total 12 = .ok (.iload_n 3, 1) := by decide +kernel
theorem dX2_total_13 : decode cX2_total 13 = .ok (.if_icmp .ge 20, 3) := by decide +kernel
theorem dX2_total_16 : decode cX2_total 16 = .ok (.aload_n 2, 1) := by decide +kernel
theorem dX2_total_17 : decode cX2_total 17 = .ok (.iload 4, 2) := by decide +kernel
theorem dX2_total_19 : decode cX2_total 19 = .ok (.iaload, 1) := by decide +kernel
theorem dX2_total_20 : decode cX2_total 20 = .ok (.istore 5, 2) := by decide +kernel
theorem dX2_total_22 : decode cX2_total 22 = .ok (.iload_n 1, 1) := by decide +kernel
theorem dX2_total_23 : decode cX2_total 23 = .ok (.iload 5, 2) := by decide +kernel
theorem dX2_total_25 : decode cX2_total 25 = .ok (.iadd, 1) := by decide +kernel
theorem dX2_total_26 : decode cX2_total 26 = .ok (.istore_n 1, 1) := by decide +kernel
theorem dX2_total_27 : decode cX2_total 27 = .ok (.iinc 4 1, 3) := by decide +kernel
theorem dX2_total_30 : decode cX2_total 30 = .ok (.goto (-20), 3) := by decide +kernel
theorem dX2_total_33 : decode cX2_total 33 = .ok (.iload_n 1, 1) := by decide +kernel
theorem dX2_total_34 : decode cX2_total 34 = .ok (.ireturn, 1) := by decide +kernel
set_option maxRecDepth 20000 in
theorem ggX2_costsBy_X3_costOf : GoodIn wsX2_costsBy wsX3_costOf := goodIn_r _ [6, 7, 8, 9, 10, 11, 14, 15, 16, 17, 18, 19, 20, 21, 22] (by decide +kernel) (by decide +kernel)
set_option maxRecDepth 20000 in
theorem gX2_costsBy_X3_costOf : GoodIn wsX2_costsBy (wsV RX2 24 RX3 yX3_costOf wsX3_costOf) := goodIn_app (goodIn_of _ (by decide +kernel)) ggX2_costsBy_X3_costOf
theorem dX2_costsBy_0 : decode cX2_costsBy 0 = .ok (.lconst 0, 1) := by decide +kernel
theorem dX2_costsBy_1 : decode cX2_costsBy 1 = .ok (.lstore_n 3, 1) := by decide +kernel
theorem dX2_costsBy_2 : decode cX2_costsBy 2 = .ok (.iconst 1, 1) := by decide +kernel
theorem dX2_costsBy_3 : decode cX2_costsBy 3 = .ok (.istore 5, 2) := by decide +kernel
theorem dX2_costsBy_5 : decode cX2_costsBy 5 = .ok (.iload 5, 2) := by decide +kernel
theorem dX2_costsBy_7 : decode cX2_costsBy 7 = .ok (.aload_n 1, 1) := by decide +kernel
theorem dX2_costsBy_8 : decode cX2_costsBy 8 = .ok (.getfield 18, 3) := by decide +kernel
theorem dX2_costsBy_11 : decode cX2_costsBy 11 = .ok (.iconst 1, 1) := by decide +kernel
theorem dX2_costsBy_12 : decode cX2_costsBy 12 = .ok (.iadd, 1) := by decide +kernel
theorem dX2_costsBy_13 : decode cX2_costsBy 13 = .ok (.if_icmp .gt 29, 3) := by decide +kernel
theorem dX2_costsBy_16 : decode cX2_costsBy 16 = .ok (.lload_n 3, 1) := by decide +kernel
theorem dX2_costsBy_17 : decode cX2_costsBy 17 = .ok (.aload_n 0, 1) := by decide +kernel
theorem dX2_costsBy_18 : decode cX2_costsBy 18 = .ok (.getfield 9, 3) := by decide +kernel
theorem dX2_costsBy_21 : decode cX2_costsBy 21 = .ok (.iload 5, 2) := by decide +kernel
theorem dX2_costsBy_23 : decode cX2_costsBy 23 = .ok (.iaload, 1) := by decide +kernel
theorem dX2_costsBy_24 : decode cX2_costsBy 24 = .ok (.i2l, 1) := by decide +kernel
theorem dX2_costsBy_25 : decode cX2_costsBy 25 = .ok (.aload_n 1, 1) := by decide +kernel
theorem dX2_costsBy_26 : decode cX2_costsBy 26 = .ok (.iload 5, 2) := by decide +kernel
theorem dX2_costsBy_28 : decode cX2_costsBy 28 = .ok (.iload_n 2, 1) := by decide +kernel
theorem dX2_costsBy_29 : decode cX2_costsBy 29 = .ok (.invokevirtual 24, 3) := by decide +kernel
theorem dX2_costsBy_32 : decode cX2_costsBy 32 = .ok (.i2l, 1) := by decide +kernel
theorem dX2_costsBy_33 : decode cX2_costsBy 33 = .ok (.lmul, 1) := by decide +kernel
theorem dX2_costsBy_34 : decode cX2_costsBy 34 = .ok (.ladd, 1) := by decide +kernel
theorem dX2_costsBy_35 : decode cX2_costsBy 35 = .ok (.lstore_n 3, 1) := by decide +kernel
theorem dX2_costsBy_36 : decode cX2_costsBy 36 = .ok (.iinc 5 1, 3) := by decide +kernel
theorem dX2_costsBy_39 : decode cX2_costsBy 39 = .ok (.goto (-34), 3) := by decide +kernel
theorem dX2_costsBy_42 : decode cX2_costsBy 42 = .ok (.lload_n 3, 1) := by decide +kernel
theorem dX2_costsBy_43 : decode cX2_costsBy 43 = .ok (.lreturn, 1) := by decide +kernel
set_option maxRecDepth 20000 in
theorem ggX2_upperBound_X2_costsBy : GoodIn wsX2_upperBound wsX2_costsBy := goodIn_r _ [10, 11, 12, 13, 14, 15, 16, 17, 18, 32, 33, 34, 35, 36, 37, 38, 39, 40, 41, 42, 43, 44, 45] (by decide +kernel) (by decide +kernel)
set_option maxRecDepth 20000 in
theorem gX2_upperBound_X2_costsBy : GoodIn wsX2_upperBound (wsV RX2 28 RX2 yX2_costsBy wsX2_costsBy) := goodIn_app (goodIn_of _ (by decide +kernel)) ggX2_upperBound_X2_costsBy
set_option maxRecDepth 20000 in
theorem ggX2_upperBound_X3_knownBy : GoodIn wsX2_upperBound wsX3_knownBy := goodIn_r _ [22, 18, 17, 23, 24, 4, 25, 32, 33, 34, 37, 38, 39, 40, 41, 42, 43, 44, 45] (by decide +kernel) (by decide +kernel)
set_option maxRecDepth 20000 in
theorem gX2_upperBound_X3_knownBy : GoodIn wsX2_upperBound (wsV RX2 34 RX3 yX3_knownBy wsX3_knownBy) := goodIn_app (goodIn_of _ (by decide +kernel)) ggX2_upperBound_X3_knownBy
set_option maxRecDepth 20000 in
theorem ggX2_upperBound_X6_roundedUp : GoodIn wsX2_upperBound wsX6_roundedUp := goodIn_r _ [28, 29, 30, 27, 31] (by decide +kernel) (by decide +kernel)
set_option maxRecDepth 20000 in
theorem gX2_upperBound_X6_roundedUp_n38 : GoodIn wsX2_upperBound (wsX6_roundedUp) := ggX2_upperBound_X6_roundedUp
theorem dX2_upperBound_0 : decode cX2_upperBound 0 = .ok (.lconst 0, 1) := by decide +kernel
theorem dX2_upperBound_1 : decode cX2_upperBound 1 = .ok (.lstore_n 3, 1) := by decide +kernel
theorem dX2_upperBound_2 : decode cX2_upperBound 2 = .ok (.iconst 1, 1) := by decide +kernel
theorem dX2_upperBound_3 : decode cX2_upperBound 3 = .ok (.istore 5, 2) := by decide +kernel
theorem dX2_upperBound_5 : decode cX2_upperBound 5 = .ok (.iload 5, 2) := by decide +kernel
theorem dX2_upperBound_7 : decode cX2_upperBound 7 = .ok (.aload_n 1, 1) := by decide +kernel
theorem dX2_upperBound_8 : decode cX2_upperBound 8 = .ok (.getfield 18, 3) := by decide +kernel
theorem dX2_upperBound_11 : decode cX2_upperBound 11 = .ok (.if_icmp .gt 42, 3) := by decide +kernel
theorem dX2_upperBound_14 : decode cX2_upperBound 14 = .ok (.aload_n 0, 1) := by decide +kernel
theorem dX2_upperBound_15 : decode cX2_upperBound 15 = .ok (.aload_n 1, 1) := by decide +kernel
theorem dX2_upperBound_16 : decode cX2_upperBound 16 = .ok (.iload 5, 2) := by decide +kernel
theorem dX2_upperBound_18 : decode cX2_upperBound 18 = .ok (.invokevirtual 28, 3) := by decide +kernel
theorem dX2_upperBound_21 : decode cX2_upperBound 21 = .ok (.ldc2_w 32, 3) := by decide +kernel
theorem dX2_upperBound_24 : decode cX2_upperBound 24 = .ok (.lmul, 1) := by decide +kernel
theorem dX2_upperBound_25 : decode cX2_upperBound 25 = .ok (.aload_n 1, 1) := by decide +kernel
theorem dX2_upperBound_26 : decode cX2_upperBound 26 = .ok (.iload 5, 2) := by decide +kernel
theorem dX2_upperBound_28 : decode cX2_upperBound 28 = .ok (.invokevirtual 34, 3) := by decide +kernel
theorem dX2_upperBound_31 : decode cX2_upperBound 31 = .ok (.i2l, 1) := by decide +kernel
theorem dX2_upperBound_32 : decode cX2_upperBound 32 = .ok (.iload_n 2, 1) := by decide +kernel
theorem dX2_upperBound_33 : decode cX2_upperBound 33 = .ok (.i2l, 1) := by decide +kernel
theorem dX2_upperBound_34 : decode cX2_upperBound 34 = .ok (.lmul, 1) := by decide +kernel
theorem dX2_upperBound_35 : decode cX2_upperBound 35 = .ok (.invokestatic 38, 3) := by decide +kernel
theorem dX2_upperBound_38 : decode cX2_upperBound 38 = .ok (.lstore 6, 2) := by decide +kernel
theorem dX2_upperBound_40 : decode cX2_upperBound 40 = .ok (.lload_n 3, 1) := by decide +kernel
theorem dX2_upperBound_41 : decode cX2_upperBound 41 = .ok (.lload 6, 2) := by decide +kernel
theorem dX2_upperBound_43 : decode cX2_upperBound 43 = .ok (.invokestatic 42, 3) := by decide +kernel
theorem dX2_upperBound_46 : decode cX2_upperBound 46 = .ok (.lstore_n 3, 1) := by decide +kernel
theorem dX2_upperBound_47 : decode cX2_upperBound 47 = .ok (.iinc 5 1, 3) := by decide +kernel
theorem dX2_upperBound_50 : decode cX2_upperBound 50 = .ok (.goto (-45), 3) := by decide +kernel
theorem dX2_upperBound_53 : decode cX2_upperBound 53 = .ok (.lload_n 3, 1) := by decide +kernel
theorem dX2_upperBound_54 : decode cX2_upperBound 54 = .ok (.lreturn, 1) := by decide +kernel
set_option maxRecDepth 20000 in
theorem ggX2_lowerBound_X2_millionthsOf : GoodIn wsX2_lowerBound wsX2_millionthsOf := goodIn_r _ [10, 11, 12, 13, 14, 15, 16, 17, 18, 19, 20, 21, 22, 23, 24, 25, 3, 26, 27, 28, 29, 30, 31, 32, 33, 34, 35, 36, 37, 38, 39, 40, 41, 42, 43] (by decide +kernel) (by decide +kernel)
set_option maxRecDepth 20000 in
theorem gX2_lowerBound_X2_millionthsOf : GoodIn wsX2_lowerBound (wsV RX2 47 RX2 yX2_millionthsOf wsX2_millionthsOf) := goodIn_app (goodIn_of _ (by decide +kernel)) ggX2_lowerBound_X2_millionthsOf
set_option maxRecDepth 20000 in
theorem ggX2_lowerBound_X6_roundedDown : GoodIn wsX2_lowerBound wsX6_roundedDown := goodIn_r _ [29] (by decide +kernel) (by decide +kernel)
set_option maxRecDepth 20000 in
theorem gX2_lowerBound_X6_roundedDown_n53 : GoodIn wsX2_lowerBound (wsX6_roundedDown) := ggX2_lowerBound_X6_roundedDown
theorem dX2_lowerBound_0 : decode cX2_lowerBound 0 = .ok (.aload_n 0, 1) := by decide +kernel
theorem dX2_lowerBound_1 : decode cX2_lowerBound 1 = .ok (.aload_n 1, 1) := by decide +kernel
theorem dX2_lowerBound_2 : decode cX2_lowerBound 2 = .ok (.iconst 1, 1) := by decide +kernel
theorem dX2_lowerBound_3 : decode cX2_lowerBound 3 = .ok (.invokevirtual 47, 3) := by decide +kernel
theorem dX2_lowerBound_6 : decode cX2_lowerBound 6 = .ok (.lstore_n 3, 1) := by decide +kernel
theorem dX2_lowerBound_7 : decode cX2_lowerBound 7 = .ok (.iconst 2, 1) := by decide +kernel
theorem dX2_lowerBound_8 : decode cX2_lowerBound 8 = .ok (.istore 5, 2) := by decide +kernel
theorem dX2_lowerBound_10 : decode cX2_lowerBound 10 = .ok (.iload 5, 2) := by decide +kernel
theorem dX2_lowerBound_12 : decode cX2_lowerBound 12 = .ok (.aload_n 1, 1) := by decide +kernel
theorem dX2_lowerBound_13 : decode cX2_lowerBound 13 = .ok (.getfield 18, 3) := by decide +kernel
theorem dX2_lowerBound_16 : decode cX2_lowerBound 16 = .ok (.iconst 1, 1) := by decide +kernel
theorem dX2_lowerBound_17 : decode cX2_lowerBound 17 = .ok (.iadd, 1) := by decide +kernel
theorem dX2_lowerBound_18 : decode cX2_lowerBound 18 = .ok (.if_icmp .gt 21, 3) := by decide +kernel
theorem dX2_lowerBound_21 : decode cX2_lowerBound 21 = .ok (.lload_n 3, 1) := by decide +kernel
theorem dX2_lowerBound_22 : decode cX2_lowerBound 22 = .ok (.aload_n 0, 1) := by decide +kernel
theorem dX2_lowerBound_23 : decode cX2_lowerBound 23 = .ok (.aload_n 1, 1) := by decide +kernel
theorem dX2_lowerBound_24 : decode cX2_lowerBound 24 = .ok (.iload 5, 2) := by decide +kernel
theorem dX2_lowerBound_26 : decode cX2_lowerBound 26 = .ok (.invokevirtual 47, 3) := by decide +kernel
theorem dX2_lowerBound_29 : decode cX2_lowerBound 29 = .ok (.invokestatic 50, 3) := by decide +kernel
theorem dX2_lowerBound_32 : decode cX2_lowerBound 32 = .ok (.lstore_n 3, 1) := by decide +kernel
theorem dX2_lowerBound_33 : decode cX2_lowerBound 33 = .ok (.iinc 5 1, 3) := by decide +kernel
theorem dX2_lowerBound_36 : decode cX2_lowerBound 36 = .ok (.goto (-26), 3) := by decide +kernel
theorem dX2_lowerBound_39 : decode cX2_lowerBound 39 = .ok (.lload_n 3, 1) := by decide +kernel
theorem dX2_lowerBound_40 : decode cX2_lowerBound 40 = .ok (.iload_n 2, 1) := by decide +kernel
theorem dX2_lowerBound_41 : decode cX2_lowerBound 41 = .ok (.i2l, 1) := by decide +kernel
theorem dX2_lowerBound_42 : decode cX2_lowerBound 42 = .ok (.ldc2_w 32, 3) := by decide +kernel
theorem dX2_lowerBound_45 : decode cX2_lowerBound 45 = .ok (.lmul, 1) := by decide +kernel
theorem dX2_lowerBound_46 : decode cX2_lowerBound 46 = .ok (.invokestatic 53, 3) := by decide +kernel
theorem dX2_lowerBound_49 : decode cX2_lowerBound 49 = .ok (.lreturn, 1) := by decide +kernel
set_option maxRecDepth 20000 in
theorem ggX2_millionthsOf_X3_costOf : GoodIn wsX2_millionthsOf wsX3_costOf := goodIn_r _ [7, 8, 9, 21, 22, 23, 26, 27, 28, 29, 30, 31, 32, 33, 34] (by decide +kernel) (by decide +kernel)
set_option maxRecDepth 20000 in
theorem gX2_millionthsOf_X3_costOf : GoodIn wsX2_millionthsOf (wsV RX2 24 RX3 yX3_costOf wsX3_costOf) := goodIn_app (goodIn_of _ (by decide +kernel)) ggX2_millionthsOf_X3_costOf
set_option maxRecDepth 20000 in
theorem ggX2_millionthsOf_X3_knownBy : GoodIn wsX2_millionthsOf wsX3_knownBy := goodIn_r _ [13, 9, 8, 14, 15, 16, 17, 21, 22, 23, 26, 27, 28, 29, 30, 31, 32, 33, 34] (by decide +kernel) (by decide +kernel)
set_option maxRecDepth 20000 in
theorem gX2_millionthsOf_X3_knownBy : GoodIn wsX2_millionthsOf (wsV RX2 34 RX3 yX3_knownBy wsX3_knownBy) := goodIn_app (goodIn_of _ (by decide +kernel)) ggX2_millionthsOf_X3_knownBy
set_option maxRecDepth 20000 in
theorem ggX2_millionthsOf_X6_roundedDown : GoodIn wsX2_millionthsOf wsX6_roundedDown := goodIn_r _ [20] (by decide +kernel) (by decide +kernel)
set_option maxRecDepth 20000 in
theorem gX2_millionthsOf_X6_roundedDown_n53 : GoodIn wsX2_millionthsOf (wsX6_roundedDown) := ggX2_millionthsOf_X6_roundedDown
theorem dX2_millionthsOf_0 : decode cX2_millionthsOf 0 = .ok (.lconst 0, 1) := by decide +kernel
theorem dX2_millionthsOf_1 : decode cX2_millionthsOf 1 = .ok (.lstore_n 3, 1) := by decide +kernel
theorem dX2_millionthsOf_2 : decode cX2_millionthsOf 2 = .ok (.iconst 1, 1) := by decide +kernel
theorem dX2_millionthsOf_3 : decode cX2_millionthsOf 3 = .ok (.istore 5, 2) := by decide +kernel
theorem dX2_millionthsOf_5 : decode cX2_millionthsOf 5 = .ok (.iload 5, 2) := by decide +kernel
theorem dX2_millionthsOf_7 : decode cX2_millionthsOf 7 = .ok (.aload_n 1, 1) := by decide +kernel
theorem dX2_millionthsOf_8 : decode cX2_millionthsOf 8 = .ok (.getfield 18, 3) := by decide +kernel
theorem dX2_millionthsOf_11 : decode cX2_millionthsOf 11 = .ok (.if_icmp .gt 43, 3) := by decide +kernel
theorem dX2_millionthsOf_14 : decode cX2_millionthsOf 14 = .ok (.lload_n 3, 1) := by decide +kernel
theorem dX2_millionthsOf_15 : decode cX2_millionthsOf 15 = .ok (.aload_n 0, 1) := by decide +kernel
theorem dX2_millionthsOf_16 : decode cX2_millionthsOf 16 = .ok (.getfield 15, 3) := by decide +kernel
theorem dX2_millionthsOf_19 : decode cX2_millionthsOf 19 = .ok (.iload 5, 2) := by decide +kernel
theorem dX2_millionthsOf_21 : decode cX2_millionthsOf 21 = .ok (.iaload, 1) := by decide +kernel
theorem dX2_millionthsOf_22 : decode cX2_millionthsOf 22 = .ok (.i2l, 1) := by decide +kernel
theorem dX2_millionthsOf_23 : decode cX2_millionthsOf 23 = .ok (.aload_n 1, 1) := by decide +kernel
theorem dX2_millionthsOf_24 : decode cX2_millionthsOf 24 = .ok (.iload_n 2, 1) := by decide +kernel
theorem dX2_millionthsOf_25 : decode cX2_millionthsOf 25 = .ok (.iload 5, 2) := by decide +kernel
theorem dX2_millionthsOf_27 : decode cX2_millionthsOf 27 = .ok (.invokevirtual 24, 3) := by decide +kernel
theorem dX2_millionthsOf_30 : decode cX2_millionthsOf 30 = .ok (.i2l, 1) := by decide +kernel
theorem dX2_millionthsOf_31 : decode cX2_millionthsOf 31 = .ok (.ldc2_w 56, 3) := by decide +kernel
theorem dX2_millionthsOf_34 : decode cX2_millionthsOf 34 = .ok (.lmul, 1) := by decide +kernel
theorem dX2_millionthsOf_35 : decode cX2_millionthsOf 35 = .ok (.aload_n 1, 1) := by decide +kernel
theorem dX2_millionthsOf_36 : decode cX2_millionthsOf 36 = .ok (.iload 5, 2) := by decide +kernel
theorem dX2_millionthsOf_38 : decode cX2_millionthsOf 38 = .ok (.invokevirtual 34, 3) := by decide +kernel
theorem dX2_millionthsOf_41 : decode cX2_millionthsOf 41 = .ok (.i2l, 1) := by decide +kernel
theorem dX2_millionthsOf_42 : decode cX2_millionthsOf 42 = .ok (.invokestatic 53, 3) := by decide +kernel
theorem dX2_millionthsOf_45 : decode cX2_millionthsOf 45 = .ok (.lmul, 1) := by decide +kernel
theorem dX2_millionthsOf_46 : decode cX2_millionthsOf 46 = .ok (.ladd, 1) := by decide +kernel
theorem dX2_millionthsOf_47 : decode cX2_millionthsOf 47 = .ok (.lstore_n 3, 1) := by decide +kernel
theorem dX2_millionthsOf_48 : decode cX2_millionthsOf 48 = .ok (.iinc 5 1, 3) := by decide +kernel
theorem dX2_millionthsOf_51 : decode cX2_millionthsOf 51 = .ok (.goto (-46), 3) := by decide +kernel
theorem dX2_millionthsOf_54 : decode cX2_millionthsOf 54 = .ok (.lload_n 3, 1) := by decide +kernel
theorem dX2_millionthsOf_55 : decode cX2_millionthsOf 55 = .ok (.lreturn, 1) := by decide +kernel
set_option maxRecDepth 20000 in
theorem ggX3_init_X1_init : GoodIn wsX3_init wsX1_init := goodIn_r _ [13, 14, 2, 3, 15, 16, 22, 23, 24, 25, 20, 21, 26, 27, 28] (by decide +kernel) (by decide +kernel)
set_option maxRecDepth 20000 in
theorem gX3_init_X1_init : GoodIn wsX3_init (wsX1_init) := ggX3_init_X1_init
theorem dX3_init_0 : decode cX3_init 0 = .ok (.aload_n 0, 1) := by decide +kernel
theorem dX3_init_1 : decode cX3_init 1 = .ok (.invokespecial 3, 3) := by decide +kernel
theorem dX3_init_4 : decode cX3_init 4 = .ok (.aload_n 0, 1) := by decide +kernel
theorem dX3_init_5 : decode cX3_init 5 = .ok (.bipush 20, 2) := by decide +kernel
theorem dX3_init_7 : decode cX3_init 7 = .ok (.putfield 9, 3) := by decide +kernel
theorem dX3_init_10 : decode cX3_init 10 = .ok (.aload_n 0, 1) := by decide +kernel
theorem dX3_init_11 : decode cX3_init 11 = .ok (.new 15, 3) := by decide +kernel
theorem dX3_init_14 : decode cX3_init 14 = .ok (.dup, 1) := by decide +kernel
theorem dX3_init_15 : decode cX3_init 15 = .ok (.iconst 1, 1) := by decide +kernel
theorem dX3_init_16 : decode cX3_init 16 = .ok (.bipush 10, 2) := by decide +kernel
theorem dX3_init_18 : decode cX3_init 18 = .ok (.invokespecial 17, 3) := by decide +kernel
theorem dX3_init_21 : decode cX3_init 21 = .ok (.putfield 20, 3) := by decide +kernel
theorem dX3_init_24 : decode cX3_init 24 = .ok (.aload_n 0, 1) := by decide +kernel
theorem dX3_init_25 : decode cX3_init 25 = .ok (.bipush 41, 2) := by decide +kernel
theorem dX3_init_27 : decode cX3_init 27 = .ok (.newarray .int, 2) := by decide +kernel
theorem dX3_init_29 : decode cX3_init 29 = .ok (.putfield 24, 3) := by decide +kernel
theorem dX3_init_32 : decode cX3_init 32 = .ok (.iconst 1, 1) := by decide +kernel
theorem dX3_init_33 : decode cX3_init 33 = .ok (.istore_n 1, 1) := by decide +kernel
theorem dX3_init_34 : decode cX3_init 34 = .ok (.iload_n 1, 1) := by decide +kernel
theorem dX3_init_35 : decode cX3_init 35 = .ok (.bipush 40, 2) := by decide +kernel
theorem dX3_init_37 : decode cX3_init 37 = .ok (.if_icmp .gt 25, 3) := by decide +kernel
theorem dX3_init_40 : decode cX3_init 40 = .ok (.aload_n 0, 1) := by decide +kernel
theorem dX3_init_41 : decode cX3_init 41 = .ok (.getfield 24, 3) := by decide +kernel
theorem dX3_init_44 : decode cX3_init 44 = .ok (.iload_n 1, 1) := by decide +kernel
theorem dX3_init_45 : decode cX3_init 45 = .ok (.aload_n 0, 1) := by decide +kernel
theorem dX3_init_46 : decode cX3_init 46 = .ok (.getfield 24, 3) := by decide +kernel
theorem dX3_init_49 : decode cX3_init 49 = .ok (.iload_n 1, 1) := by decide +kernel
theorem dX3_init_50 : decode cX3_init 50 = .ok (.iconst 1, 1) := by decide +kernel
theorem dX3_init_51 : decode cX3_init 51 = .ok (.isub, 1) := by decide +kernel
theorem dX3_init_52 : decode cX3_init 52 = .ok (.iaload, 1) := by decide +kernel
theorem dX3_init_53 : decode cX3_init 53 = .ok (.iconst 1, 1) := by decide +kernel
theorem dX3_init_54 : decode cX3_init 54 = .ok (.iadd, 1) := by decide +kernel
theorem dX3_init_55 : decode cX3_init 55 = .ok (.iastore, 1) := by decide +kernel
theorem dX3_init_56 : decode cX3_init 56 = .ok (.iinc 1 1, 3) := by decide +kernel
theorem dX3_init_59 : decode cX3_init 59 = .ok (.goto (-25), 3) := by decide +kernel
theorem dX3_init_62 : decode cX3_init 62 = .ok (.return_, 1) := by decide +kernel
set_option maxRecDepth 20000 in
theorem ggX3_take_X0_rentOf : GoodIn wsX3_take wsX0_rentOf := goodIn_r _ [9, 10, 11, 12, 13, 14, 15, 16, 17, 18, 19, 20, 21, 22, 4, 23, 24, 25, 26, 27, 34, 35, 36, 37, 38, 39, 40, 41, 42] (by decide +kernel) (by decide +kernel)
set_option maxRecDepth 20000 in
theorem gX3_take_X0_rentOf_u28X0 : GoodIn wsX3_take (va_wsO RX3 28 RX0 "RentOrBuy$Flat" ⟨"RentOrBuy$Flat", "rentOf", "(I)I"⟩ yX0_rentOf wsX0_rentOf) := goodIn_app (goodIn_of _ (by decide +kernel)) ggX3_take_X0_rentOf
set_option maxRecDepth 20000 in
theorem ggX3_take_X1_rentOf : GoodIn wsX3_take wsX1_rentOf := goodIn_r _ [26, 27, 34, 35, 36, 37, 41, 42, 38, 39, 40] (by decide +kernel) (by decide +kernel)
set_option maxRecDepth 20000 in
theorem gX3_take_X1_rentOf : GoodIn wsX3_take (wsV RX3 28 RX1 yX1_rentOf wsX1_rentOf) := goodIn_app (goodIn_of _ (by decide +kernel)) ggX3_take_X1_rentOf
set_option maxRecDepth 20000 in
theorem ggX3_take_X4_rentOf : GoodIn wsX3_take wsX4_rentOf := goodIn_r _ [20, 21, 22, 4, 23, 24, 25, 26, 27, 34, 35, 36, 37, 38, 39, 40, 41, 42] (by decide +kernel) (by decide +kernel)
set_option maxRecDepth 20000 in
theorem gX3_take_X4_rentOf_u28X4 : GoodIn wsX3_take (va_wsO RX3 28 RX4 "RentOrBuy$Flat" ⟨"RentOrBuy$Flat", "rentOf", "(I)I"⟩ yX4_rentOf wsX4_rentOf) := goodIn_app (goodIn_of _ (by decide +kernel)) ggX3_take_X4_rentOf
theorem dX3_take_0 : decode cX3_take 0 = .ok (.aload_n 0, 1) := by decide +kernel
theorem dX3_take_1 : decode cX3_take 1 = .ok (.aload_n 1, 1) := by decide +kernel
theorem dX3_take_2 : decode cX3_take 2 = .ok (.putfield 20, 3) := by decide +kernel
theorem dX3_take_5 : decode cX3_take 5 = .ok (.iconst 1, 1) := by decide +kernel
theorem dX3_take_6 : decode cX3_take 6 = .ok (.istore_n 2, 1) := by decide +kernel
theorem dX3_take_7 : decode cX3_take 7 = .ok (.iload_n 2, 1) := by decide +kernel
theorem dX3_take_8 : decode cX3_take 8 = .ok (.bipush 40, 2) := by decide +kernel
theorem dX3_take_10 : decode cX3_take 10 = .ok (.if_icmp .gt 29, 3) := by decide +kernel
theorem dX3_take_13 : decode cX3_take 13 = .ok (.aload_n 0, 1) := by decide +kernel
theorem dX3_take_14 : decode cX3_take 14 = .ok (.getfield 24, 3) := by decide +kernel
theorem dX3_take_17 : decode cX3_take 17 = .ok (.iload_n 2, 1) := by decide +kernel
theorem dX3_take_18 : decode cX3_take 18 = .ok (.aload_n 0, 1) := by decide +kernel
theorem dX3_take_19 : decode cX3_take 19 = .ok (.getfield 24, 3) := by decide +kernel
theorem dX3_take_22 : decode cX3_take 22 = .ok (.iload_n 2, 1) := by decide +kernel
theorem dX3_take_23 : decode cX3_take 23 = .ok (.iconst 1, 1) := by decide +kernel
theorem dX3_take_24 : decode cX3_take 24 = .ok (.isub, 1) := by decide +kernel
theorem dX3_take_25 : decode cX3_take 25 = .ok (.iaload, 1) := by decide +kernel
theorem dX3_take_26 : decode cX3_take 26 = .ok (.aload_n 1, 1) := by decide +kernel
theorem dX3_take_27 : decode cX3_take 27 = .ok (.iload_n 2, 1) := by decide +kernel
theorem dX3_take_28 : decode cX3_take 28 = .ok (.invokevirtual 28, 3) := by decide +kernel
theorem dX3_take_31 : decode cX3_take 31 = .ok (.iadd, 1) := by decide +kernel
theorem dX3_take_32 : decode cX3_take 32 = .ok (.iastore, 1) := by decide +kernel
theorem dX3_take_33 : decode cX3_take 33 = .ok (.iinc 2 1, 3) := by decide +kernel
theorem dX3_take_36 : decode cX3_take 36 = .ok (.goto (-29), 3) := by decide +kernel
theorem dX3_take_39 : decode cX3_take 39 = .ok (.return_, 1) := by decide +kernel
set_option maxRecDepth 20000 in
theorem ggX3_isPlan_X6_isWithin : GoodIn wsX3_isPlan wsX6_isWithin := goodIn_r _ [4] (by decide +kernel) (by decide +kernel)
set_option maxRecDepth 20000 in
theorem gX3_isPlan_X6_isWithin_n32 : GoodIn wsX3_isPlan (wsX6_isWithin) := ggX3_isPlan_X6_isWithin
theorem dX3_isPlan_0 : decode cX3_isPlan 0 = .ok (.iload_n 1, 1) := by decide +kernel
theorem dX3_isPlan_1 : decode cX3_isPlan 1 = .ok (.iconst 1, 1) := by decide +kernel
theorem dX3_isPlan_2 : decode cX3_isPlan 2 = .ok (.aload_n 0, 1) := by decide +kernel
theorem dX3_isPlan_3 : decode cX3_isPlan 3 = .ok (.getfield 9, 3) := by decide +kernel
theorem dX3_isPlan_6 : decode cX3_isPlan 6 = .ok (.iconst 1, 1) := by decide +kernel
theorem dX3_isPlan_7 : decode cX3_isPlan 7 = .ok (.iadd, 1) := by decide +kernel
theorem dX3_isPlan_8 : decode cX3_isPlan 8 = .ok (.invokestatic 32, 3) := by decide +kernel
theorem dX3_isPlan_11 : decode cX3_isPlan 11 = .ok (.ireturn, 1) := by decide +kernel
set_option maxRecDepth 20000 in
theorem ggX3_isEnd_X6_isWithin : GoodIn wsX3_isEnd wsX6_isWithin := goodIn_r _ [4] (by decide +kernel) (by decide +kernel)
set_option maxRecDepth 20000 in
theorem gX3_isEnd_X6_isWithin_n32 : GoodIn wsX3_isEnd (wsX6_isWithin) := ggX3_isEnd_X6_isWithin
theorem dX3_isEnd_0 : decode cX3_isEnd 0 = .ok (.iload_n 1, 1) := by decide +kernel
theorem dX3_isEnd_1 : decode cX3_isEnd 1 = .ok (.iconst 1, 1) := by decide +kernel
theorem dX3_isEnd_2 : decode cX3_isEnd 2 = .ok (.aload_n 0, 1) := by decide +kernel
theorem dX3_isEnd_3 : decode cX3_isEnd 3 = .ok (.getfield 9, 3) := by decide +kernel
theorem dX3_isEnd_6 : decode cX3_isEnd 6 = .ok (.invokestatic 32, 3) := by decide +kernel
theorem dX3_isEnd_9 : decode cX3_isEnd 9 = .ok (.ireturn, 1) := by decide +kernel
theorem dX3_costOf_0 : decode cX3_costOf 0 = .ok (.iload_n 1, 1) := by decide +kernel
theorem dX3_costOf_1 : decode cX3_costOf 1 = .ok (.iload_n 2, 1) := by decide +kernel
theorem dX3_costOf_2 : decode cX3_costOf 2 = .ok (.if_icmp .gt 22, 3) := by decide +kernel
theorem dX3_costOf_5 : decode cX3_costOf 5 = .ok (.aload_n 0, 1) := by decide +kernel
theorem dX3_costOf_6 : decode cX3_costOf 6 = .ok (.getfield 24, 3) := by decide +kernel
theorem dX3_costOf_9 : decode cX3_costOf 9 = .ok (.iload_n 1, 1) := by decide +kernel
theorem dX3_costOf_10 : decode cX3_costOf 10 = .ok (.iconst 1, 1) := by decide +kernel
theorem dX3_costOf_11 : decode cX3_costOf 11 = .ok (.isub, 1) := by decide +kernel
theorem dX3_costOf_12 : decode cX3_costOf 12 = .ok (.iaload, 1) := by decide +kernel
theorem dX3_costOf_13 : decode cX3_costOf 13 = .ok (.aload_n 0, 1) := by decide +kernel
theorem dX3_costOf_14 : decode cX3_costOf 14 = .ok (.getfield 20, 3) := by decide +kernel
theorem dX3_costOf_17 : decode cX3_costOf 17 = .ok (.getfield 36, 3) := by decide +kernel
theorem dX3_costOf_20 : decode cX3_costOf 20 = .ok (.iadd, 1) := by decide +kernel
theorem dX3_costOf_21 : decode cX3_costOf 21 = .ok (.goto 9, 3) := by decide +kernel
theorem dX3_costOf_24 : decode cX3_costOf 24 = .ok (.aload_n 0, 1) := by decide +kernel
theorem dX3_costOf_25 : decode cX3_costOf 25 = .ok (.getfield 24, 3) := by decide +kernel
theorem dX3_costOf_28 : decode cX3_costOf 28 = .ok (.iload_n 2, 1) := by decide +kernel
theorem dX3_costOf_29 : decode cX3_costOf 29 = .ok (.iaload, 1) := by decide +kernel
theorem dX3_costOf_30 : decode cX3_costOf 30 = .ok (.ireturn, 1) := by decide +kernel
theorem dX3_knownBy_0 : decode cX3_knownBy 0 = .ok (.aload_n 0, 1) := by decide +kernel
theorem dX3_knownBy_1 : decode cX3_knownBy 1 = .ok (.getfield 20, 3) := by decide +kernel
theorem dX3_knownBy_4 : decode cX3_knownBy 4 = .ok (.getfield 36, 3) := by decide +kernel
theorem dX3_knownBy_7 : decode cX3_knownBy 7 = .ok (.aload_n 0, 1) := by decide +kernel
theorem dX3_knownBy_8 : decode cX3_knownBy 8 = .ok (.getfield 24, 3) := by decide +kernel
theorem dX3_knownBy_11 : decode cX3_knownBy 11 = .ok (.iload_n 1, 1) := by decide +kernel
theorem dX3_knownBy_12 : decode cX3_knownBy 12 = .ok (.iaload, 1) := by decide +kernel
theorem dX3_knownBy_13 : decode cX3_knownBy 13 = .ok (.invokestatic 39, 3) := by decide +kernel
theorem dX3_knownBy_16 : decode cX3_knownBy 16 = .ok (.ireturn, 1) := by decide +kernel
set_option maxRecDepth 20000 in
theorem ggX3_ratioPart_X3_costOf : GoodIn wsX3_ratioPart wsX3_costOf := goodIn_r _ [5, 6, 7, 25, 26, 27, 28, 29, 30, 31, 32, 33, 34, 35, 36] (by decide +kernel) (by decide +kernel)
set_option maxRecDepth 20000 in
theorem gX3_ratioPart_X3_costOf : GoodIn wsX3_ratioPart (wsV RX3 45 RX3 yX3_costOf wsX3_costOf) := goodIn_app (goodIn_of _ (by decide +kernel)) ggX3_ratioPart_X3_costOf
set_option maxRecDepth 20000 in
theorem ggX3_ratioPart_X3_knownBy : GoodIn wsX3_ratioPart wsX3_knownBy := goodIn_r _ [11, 7, 6, 12, 13, 14, 15, 25, 26, 27, 28, 29, 30, 31, 32, 33, 34, 35, 36] (by decide +kernel) (by decide +kernel)
set_option maxRecDepth 20000 in
theorem gX3_ratioPart_X3_knownBy : GoodIn wsX3_ratioPart (wsV RX3 48 RX3 yX3_knownBy wsX3_knownBy) := goodIn_app (goodIn_of _ (by decide +kernel)) ggX3_ratioPart_X3_knownBy
set_option maxRecDepth 20000 in
theorem ggX3_ratioPart_X6_leastForm : GoodIn wsX3_ratioPart wsX6_leastForm := goodIn_r _ [18, 19, 20, 17, 21, 22, 23, 24] (by decide +kernel) (by decide +kernel)
set_option maxRecDepth 20000 in
theorem gX3_ratioPart_X6_leastForm_n51 : GoodIn wsX3_ratioPart (wsX6_leastForm) := ggX3_ratioPart_X6_leastForm
theorem dX3_ratioPart_0 : decode cX3_ratioPart 0 = .ok (.aload_n 0, 1) := by decide +kernel
theorem dX3_ratioPart_1 : decode cX3_ratioPart 1 = .ok (.iload_n 1, 1) := by decide +kernel
theorem dX3_ratioPart_2 : decode cX3_ratioPart 2 = .ok (.iload_n 2, 1) := by decide +kernel
theorem dX3_ratioPart_3 : decode cX3_ratioPart 3 = .ok (.invokevirtual 45, 3) := by decide +kernel
theorem dX3_ratioPart_6 : decode cX3_ratioPart 6 = .ok (.i2l, 1) := by decide +kernel
theorem dX3_ratioPart_7 : decode cX3_ratioPart 7 = .ok (.aload_n 0, 1) := by decide +kernel
theorem dX3_ratioPart_8 : decode cX3_ratioPart 8 = .ok (.iload_n 2, 1) := by decide +kernel
theorem dX3_ratioPart_9 : decode cX3_ratioPart 9 = .ok (.invokevirtual 48, 3) := by decide +kernel
theorem dX3_ratioPart_12 : decode cX3_ratioPart 12 = .ok (.i2l, 1) := by decide +kernel
theorem dX3_ratioPart_13 : decode cX3_ratioPart 13 = .ok (.iload_n 3, 1) := by decide +kernel
theorem dX3_ratioPart_14 : decode cX3_ratioPart 14 = .ok (.invokestatic 51, 3) := by decide +kernel
theorem dX3_ratioPart_17 : decode cX3_ratioPart 17 = .ok (.l2i, 1) := by decide +kernel
theorem dX3_ratioPart_18 : decode cX3_ratioPart 18 = .ok (.ireturn, 1) := by decide +kernel
set_option maxRecDepth 20000 in
theorem ggX3_isRatioGreater_X3_costOf : GoodIn wsX3_isRatioGreater wsX3_costOf := goodIn_r _ [5, 6, 7, 16, 17, 18, 19, 20, 21, 22, 23, 24, 25, 26, 27] (by decide +kernel) (by decide +kernel)
set_option maxRecDepth 20000 in
theorem gX3_isRatioGreater_X3_costOf : GoodIn wsX3_isRatioGreater (wsV RX3 45 RX3 yX3_costOf wsX3_costOf) := goodIn_app (goodIn_of _ (by decide +kernel)) ggX3_isRatioGreater_X3_costOf
set_option maxRecDepth 20000 in
theorem ggX3_isRatioGreater_X3_knownBy : GoodIn wsX3_isRatioGreater wsX3_knownBy := goodIn_r _ [11, 7, 6, 12, 13, 14, 15, 16, 17, 18, 19, 20, 21, 22, 23, 24, 25, 26, 27] (by decide +kernel) (by decide +kernel)
set_option maxRecDepth 20000 in
theorem gX3_isRatioGreater_X3_knownBy : GoodIn wsX3_isRatioGreater (wsV RX3 48 RX3 yX3_knownBy wsX3_knownBy) := goodIn_app (goodIn_of _ (by decide +kernel)) ggX3_isRatioGreater_X3_knownBy
theorem dX3_isRatioGreater_0 : decode cX3_isRatioGreater 0 = .ok (.aload_n 0, 1) := by decide +kernel
theorem dX3_isRatioGreater_1 : decode cX3_isRatioGreater 1 = .ok (.iload_n 1, 1) := by decide +kernel
theorem dX3_isRatioGreater_2 : decode cX3_isRatioGreater 2 = .ok (.iload_n 2, 1) := by decide +kernel
theorem dX3_isRatioGreater_3 : decode cX3_isRatioGreater 3 = .ok (.invokevirtual 45, 3) := by decide +kernel
theorem dX3_isRatioGreater_6 : decode cX3_isRatioGreater 6 = .ok (.i2l, 1) := by decide +kernel
theorem dX3_isRatioGreater_7 : decode cX3_isRatioGreater 7 = .ok (.aload_n 0, 1) := by decide +kernel
theorem dX3_isRatioGreater_8 : decode cX3_isRatioGreater 8 = .ok (.iload 4, 2) := by decide +kernel
theorem dX3_isRatioGreater_10 : decode cX3_isRatioGreater 10 = .ok (.invokevirtual 48, 3) := by decide +kernel
theorem dX3_isRatioGreater_13 : decode cX3_isRatioGreater 13 = .ok (.i2l, 1) := by decide +kernel
theorem dX3_isRatioGreater_14 : decode cX3_isRatioGreater 14 = .ok (.lmul, 1) := by decide +kernel
theorem dX3_isRatioGreater_15 : decode cX3_isRatioGreater 15 = .ok (.aload_n 0, 1) := by decide +kernel
theorem dX3_isRatioGreater_16 : decode cX3_isRatioGreater 16 = .ok (.iload_n 3, 1) := by decide +kernel
theorem dX3_isRatioGreater_17 : decode cX3_isRatioGreater 17 = .ok (.iload 4, 2) := by decide +kernel
theorem dX3_isRatioGreater_19 : decode cX3_isRatioGreater 19 = .ok (.invokevirtual 45, 3) := by decide +kernel
theorem dX3_isRatioGreater_22 : decode cX3_isRatioGreater 22 = .ok (.i2l, 1) := by decide +kernel
theorem dX3_isRatioGreater_23 : decode cX3_isRatioGreater 23 = .ok (.aload_n 0, 1) := by decide +kernel
theorem dX3_isRatioGreater_24 : decode cX3_isRatioGreater 24 = .ok (.iload_n 2, 1) := by decide +kernel
theorem dX3_isRatioGreater_25 : decode cX3_isRatioGreater 25 = .ok (.invokevirtual 48, 3) := by decide +kernel
theorem dX3_isRatioGreater_28 : decode cX3_isRatioGreater 28 = .ok (.i2l, 1) := by decide +kernel
theorem dX3_isRatioGreater_29 : decode cX3_isRatioGreater 29 = .ok (.lmul, 1) := by decide +kernel
theorem dX3_isRatioGreater_30 : decode cX3_isRatioGreater 30 = .ok (.lcmp, 1) := by decide +kernel
theorem dX3_isRatioGreater_31 : decode cX3_isRatioGreater 31 = .ok (.ifCond .le 7, 3) := by decide +kernel
theorem dX3_isRatioGreater_34 : decode cX3_isRatioGreater 34 = .ok (.iconst 1, 1) := by decide +kernel
theorem dX3_isRatioGreater_35 : decode cX3_isRatioGreater 35 = .ok (.goto 4, 3) := by decide +kernel
theorem dX3_isRatioGreater_38 : decode cX3_isRatioGreater 38 = .ok (.iconst 0, 1) := by decide +kernel
theorem dX3_isRatioGreater_39 : decode cX3_isRatioGreater 39 = .ok (.ireturn, 1) := by decide +kernel
set_option maxRecDepth 20000 in
theorem ggX3_worstEnd_X3_isRatioGreater : GoodIn wsX3_worstEnd wsX3_isRatioGreater := goodIn_r _ [6, 7, 8, 9, 5, 10, 11, 12, 13, 14, 15, 16, 17, 18, 19, 20, 21, 22, 23, 24, 25, 26, 27, 28, 29, 30, 31, 32] (by decide +kernel) (by decide +kernel)
set_option maxRecDepth 20000 in
theorem gX3_worstEnd_X3_isRatioGreater : GoodIn wsX3_worstEnd (wsV RX3 55 RX3 yX3_isRatioGreater wsX3_isRatioGreater) := goodIn_app (goodIn_of _ (by decide +kernel)) ggX3_worstEnd_X3_isRatioGreater
theorem dX3_worstEnd_0 : decode cX3_worstEnd 0 = .ok (.iconst 1, 1) := by decide +kernel
theorem dX3_worstEnd_1 : decode cX3_worstEnd 1 = .ok (.istore_n 2, 1) := by decide +kernel
theorem dX3_worstEnd_2 : decode cX3_worstEnd 2 = .ok (.iconst 2, 1) := by decide +kernel
theorem dX3_worstEnd_3 : decode cX3_worstEnd 3 = .ok (.istore_n 3, 1) := by decide +kernel
theorem dX3_worstEnd_4 : decode cX3_worstEnd 4 = .ok (.iload_n 3, 1) := by decide +kernel
theorem dX3_worstEnd_5 : decode cX3_worstEnd 5 = .ok (.aload_n 0, 1) := by decide +kernel
theorem dX3_worstEnd_6 : decode cX3_worstEnd 6 = .ok (.getfield 9, 3) := by decide +kernel
theorem dX3_worstEnd_9 : decode cX3_worstEnd 9 = .ok (.if_icmp .gt 22, 3) := by decide +kernel
theorem dX3_worstEnd_12 : decode cX3_worstEnd 12 = .ok (.aload_n 0, 1) := by decide +kernel
theorem dX3_worstEnd_13 : decode cX3_worstEnd 13 = .ok (.iload_n 1, 1) := by decide +kernel
theorem dX3_worstEnd_14 : decode cX3_worstEnd 14 = .ok (.iload_n 3, 1) := by decide +kernel
theorem dX3_worstEnd_15 : decode cX3_worstEnd 15 = .ok (.iload_n 1, 1) := by decide +kernel
theorem dX3_worstEnd_16 : decode cX3_worstEnd 16 = .ok (.iload_n 2, 1) := by decide +kernel
theorem dX3_worstEnd_17 : decode cX3_worstEnd 17 = .ok (.invokevirtual 55, 3) := by decide +kernel
theorem dX3_worstEnd_20 : decode cX3_worstEnd 20 = .ok (.ifCond .eq 5, 3) := by decide +kernel
theorem dX3_worstEnd_23 : decode cX3_worstEnd 23 = .ok (.iload_n 3, 1) := by decide +kernel
theorem dX3_worstEnd_24 : decode cX3_worstEnd 24 = .ok (.istore_n 2, 1) := by decide +kernel
theorem dX3_worstEnd_25 : decode cX3_worstEnd 25 = .ok (.iinc 3 1, 3) := by decide +kernel
theorem dX3_worstEnd_28 : decode cX3_worstEnd 28 = .ok (.goto (-24), 3) := by decide +kernel
theorem dX3_worstEnd_31 : decode cX3_worstEnd 31 = .ok (.iload_n 2, 1) := by decide +kernel
theorem dX3_worstEnd_32 : decode cX3_worstEnd 32 = .ok (.ireturn, 1) := by decide +kernel
set_option maxRecDepth 20000 in
theorem ggX3_surePlan_X3_worstEnd : GoodIn wsX3_surePlan wsX3_worstEnd := goodIn_r _ [6, 1, 7, 8, 9, 5, 10, 11, 12, 13, 14, 15, 16, 17, 18, 19, 20, 21, 22, 23, 24, 25, 26, 27, 28, 29, 30, 31, 32, 33, 34, 35, 36] (by decide +kernel) (by decide +kernel)
set_option maxRecDepth 20000 in
theorem gX3_surePlan_X3_worstEnd : GoodIn wsX3_surePlan (wsV RX3 59 RX3 yX3_worstEnd wsX3_worstEnd) := goodIn_app (goodIn_of _ (by decide +kernel)) ggX3_surePlan_X3_worstEnd
set_option maxRecDepth 20000 in
theorem ggX3_surePlan_X3_isRatioGreater : GoodIn wsX3_surePlan wsX3_isRatioGreater := goodIn_r _ [10, 11, 12, 13, 5, 14, 15, 16, 17, 18, 19, 20, 21, 22, 23, 24, 25, 26, 27, 28, 29, 30, 31, 32, 33, 34, 35, 36] (by decide +kernel) (by decide +kernel)
set_option maxRecDepth 20000 in
theorem gX3_surePlan_X3_isRatioGreater : GoodIn wsX3_surePlan (wsV RX3 55 RX3 yX3_isRatioGreater wsX3_isRatioGreater) := goodIn_app (goodIn_of _ (by decide +kernel)) ggX3_surePlan_X3_isRatioGreater
theorem dX3_surePlan_0 : decode cX3_surePlan 0 = .ok (.iconst 1, 1) := by decide +kernel
theorem dX3_surePlan_1 : decode cX3_surePlan 1 = .ok (.istore_n 1, 1) := by decide +kernel
theorem dX3_surePlan_2 : decode cX3_surePlan 2 = .ok (.aload_n 0, 1) := by decide +kernel
theorem dX3_surePlan_3 : decode cX3_surePlan 3 = .ok (.iconst 1, 1) := by decide +kernel
theorem dX3_surePlan_4 : decode cX3_surePlan 4 = .ok (.invokevirtual 59, 3) := by decide +kernel
theorem dX3_surePlan_7 : decode cX3_surePlan 7 = .ok (.istore_n 2, 1) := by decide +kernel
theorem dX3_surePlan_8 : decode cX3_surePlan 8 = .ok (.iconst 2, 1) := by decide +kernel
theorem dX3_surePlan_9 : decode cX3_surePlan 9 = .ok (.istore_n 3, 1) := by decide +kernel
theorem dX3_surePlan_10 : decode cX3_surePlan 10 = .ok (.iload_n 3, 1) := by decide +kernel
theorem dX3_surePlan_11 : decode cX3_surePlan 11 = .ok (.aload_n 0, 1) := by decide +kernel
theorem dX3_surePlan_12 : decode cX3_surePlan 12 = .ok (.getfield 9, 3) := by decide +kernel
theorem dX3_surePlan_15 : decode cX3_surePlan 15 = .ok (.iconst 1, 1) := by decide +kernel
theorem dX3_surePlan_16 : decode cX3_surePlan 16 = .ok (.iadd, 1) := by decide +kernel
theorem dX3_surePlan_17 : decode cX3_surePlan 17 = .ok (.if_icmp .gt 33, 3) := by decide +kernel
theorem dX3_surePlan_20 : decode cX3_surePlan 20 = .ok (.aload_n 0, 1) := by decide +kernel
theorem dX3_surePlan_21 : decode cX3_surePlan 21 = .ok (.iload_n 3, 1) := by decide +kernel
theorem dX3_surePlan_22 : decode cX3_surePlan 22 = .ok (.invokevirtual 59, 3) := by decide +kernel
theorem dX3_surePlan_25 : decode cX3_surePlan 25 = .ok (.istore 4, 2) := by decide +kernel
theorem dX3_surePlan_27 : decode cX3_surePlan 27 = .ok (.aload_n 0, 1) := by decide +kernel
theorem dX3_surePlan_28 : decode cX3_surePlan 28 = .ok (.iload_n 1, 1) := by decide +kernel
theorem dX3_surePlan_29 : decode cX3_surePlan 29 = .ok (.iload_n 2, 1) := by decide +kernel
theorem dX3_surePlan_30 : decode cX3_surePlan 30 = .ok (.iload_n 3, 1) := by decide +kernel
theorem dX3_surePlan_31 : decode cX3_surePlan 31 = .ok (.iload 4, 2) := by decide +kernel
theorem dX3_surePlan_33 : decode cX3_surePlan 33 = .ok (.invokevirtual 55, 3) := by decide +kernel
theorem dX3_surePlan_36 : decode cX3_surePlan 36 = .ok (.ifCond .eq 8, 3) := by decide +kernel
theorem dX3_surePlan_39 : decode cX3_surePlan 39 = .ok (.iload_n 3, 1) := by decide +kernel
theorem dX3_surePlan_40 : decode cX3_surePlan 40 = .ok (.istore_n 1, 1) := by decide +kernel
theorem dX3_surePlan_41 : decode cX3_surePlan 41 = .ok (.iload 4, 2) := by decide +kernel
theorem dX3_surePlan_43 : decode cX3_surePlan 43 = .ok (.istore_n 2, 1) := by decide +kernel
theorem dX3_surePlan_44 : decode cX3_surePlan 44 = .ok (.iinc 3 1, 3) := by decide +kernel
theorem dX3_surePlan_47 : decode cX3_surePlan 47 = .ok (.goto (-37), 3) := by decide +kernel
theorem dX3_surePlan_50 : decode cX3_surePlan 50 = .ok (.iload_n 1, 1) := by decide +kernel
theorem dX3_surePlan_51 : decode cX3_surePlan 51 = .ok (.ireturn, 1) := by decide +kernel
set_option maxRecDepth 20000 in
theorem ggX3_planByGuess_X3_surePlan : GoodIn wsX3_planByGuess wsX3_surePlan := goodIn_r _ [12, 3, 13, 14, 15, 11, 16, 17, 18, 19, 20, 21, 22, 23, 24, 1, 25, 26, 27, 28, 29, 30, 31, 6, 32, 39, 40, 41, 42, 43, 44, 45, 46, 47, 48, 49, 50] (by decide +kernel) (by decide +kernel)
set_option maxRecDepth 20000 in
theorem gX3_planByGuess_X3_surePlan : GoodIn wsX3_planByGuess (wsV RX3 62 RX3 yX3_surePlan wsX3_surePlan) := goodIn_app (goodIn_of _ (by decide +kernel)) ggX3_planByGuess_X3_surePlan
set_option maxRecDepth 20000 in
theorem ggX3_planByGuess_X3_costOf : GoodIn wsX3_planByGuess wsX3_costOf := goodIn_r _ [24, 1, 25, 39, 40, 41, 42, 43, 44, 45, 46, 47, 48, 49, 50] (by decide +kernel) (by decide +kernel)
set_option maxRecDepth 20000 in
theorem gX3_planByGuess_X3_costOf : GoodIn wsX3_planByGuess (wsV RX3 45 RX3 yX3_costOf wsX3_costOf) := goodIn_app (goodIn_of _ (by decide +kernel)) ggX3_planByGuess_X3_costOf
set_option maxRecDepth 20000 in
theorem ggX3_planByGuess_X6_roundedUp : GoodIn wsX3_planByGuess wsX6_roundedUp := goodIn_r _ [35, 36, 37, 34, 38] (by decide +kernel) (by decide +kernel)
set_option maxRecDepth 20000 in
theorem gX3_planByGuess_X6_roundedUp_n68 : GoodIn wsX3_planByGuess (wsX6_roundedUp) := ggX3_planByGuess_X6_roundedUp
set_option maxRecDepth 20000 in
theorem ggX3_planByGuess_X6_roundedDown : GoodIn wsX3_planByGuess wsX6_roundedDown := goodIn_r _ [38] (by decide +kernel) (by decide +kernel)
set_option maxRecDepth 20000 in
theorem gX3_planByGuess_X6_roundedDown_n72 : GoodIn wsX3_planByGuess (wsX6_roundedDown) := ggX3_planByGuess_X6_roundedDown
theorem dX3_planByGuess_0 : decode cX3_planByGuess 0 = .ok (.aload_n 0, 1) := by decide +kernel
theorem dX3_planByGuess_1 : decode cX3_planByGuess 1 = .ok (.invokevirtual 62, 3) := by decide +kernel
theorem dX3_planByGuess_4 : decode cX3_planByGuess 4 = .ok (.istore_n 3, 1) := by decide +kernel
theorem dX3_planByGuess_5 : decode cX3_planByGuess 5 = .ok (.aload_n 0, 1) := by decide +kernel
theorem dX3_planByGuess_6 : decode cX3_planByGuess 6 = .ok (.iconst 1, 1) := by decide +kernel
theorem dX3_planByGuess_7 : decode cX3_planByGuess 7 = .ok (.iload_n 1, 1) := by decide +kernel
theorem dX3_planByGuess_8 : decode cX3_planByGuess 8 = .ok (.invokevirtual 45, 3) := by decide +kernel
theorem dX3_planByGuess_11 : decode cX3_planByGuess 11 = .ok (.aload_n 0, 1) := by decide +kernel
theorem dX3_planByGuess_12 : decode cX3_planByGuess 12 = .ok (.getfield 24, 3) := by decide +kernel
theorem dX3_planByGuess_15 : decode cX3_planByGuess 15 = .ok (.iload_n 1, 1) := by decide +kernel
theorem dX3_planByGuess_16 : decode cX3_planByGuess 16 = .ok (.iaload, 1) := by decide +kernel
theorem dX3_planByGuess_17 : decode cX3_planByGuess 17 = .ok (.if_icmp .ge 16, 3) := by decide +kernel
theorem dX3_planByGuess_20 : decode cX3_planByGuess 20 = .ok (.iload_n 3, 1) := by decide +kernel
theorem dX3_planByGuess_21 : decode cX3_planByGuess 21 = .ok (.i2l, 1) := by decide +kernel
theorem dX3_planByGuess_22 : decode cX3_planByGuess 22 = .ok (.iload_n 2, 1) := by decide +kernel
theorem dX3_planByGuess_23 : decode cX3_planByGuess 23 = .ok (.i2l, 1) := by decide +kernel
theorem dX3_planByGuess_24 : decode cX3_planByGuess 24 = .ok (.lmul, 1) := by decide +kernel
theorem dX3_planByGuess_25 : decode cX3_planByGuess 25 = .ok (.ldc2_w 66, 3) := by decide +kernel
theorem dX3_planByGuess_28 : decode cX3_planByGuess 28 = .ok (.invokestatic 68, 3) := by decide +kernel
theorem dX3_planByGuess_31 : decode cX3_planByGuess 31 = .ok (.l2i, 1) := by decide +kernel
theorem dX3_planByGuess_32 : decode cX3_planByGuess 32 = .ok (.ireturn, 1) := by decide +kernel
theorem dX3_planByGuess_33 : decode cX3_planByGuess 33 = .ok (.iload_n 3, 1) := by decide +kernel
theorem dX3_planByGuess_34 : decode cX3_planByGuess 34 = .ok (.i2l, 1) := by decide +kernel
theorem dX3_planByGuess_35 : decode cX3_planByGuess 35 = .ok (.ldc2_w 66, 3) := by decide +kernel
theorem dX3_planByGuess_38 : decode cX3_planByGuess 38 = .ok (.lmul, 1) := by decide +kernel
theorem dX3_planByGuess_39 : decode cX3_planByGuess 39 = .ok (.iload_n 2, 1) := by decide +kernel
theorem dX3_planByGuess_40 : decode cX3_planByGuess 40 = .ok (.i2l, 1) := by decide +kernel
theorem dX3_planByGuess_41 : decode cX3_planByGuess 41 = .ok (.invokestatic 72, 3) := by decide +kernel
theorem dX3_planByGuess_44 : decode cX3_planByGuess 44 = .ok (.aload_n 0, 1) := by decide +kernel
theorem dX3_planByGuess_45 : decode cX3_planByGuess 45 = .ok (.getfield 9, 3) := by decide +kernel
theorem dX3_planByGuess_48 : decode cX3_planByGuess 48 = .ok (.iconst 1, 1) := by decide +kernel
theorem dX3_planByGuess_49 : decode cX3_planByGuess 49 = .ok (.iadd, 1) := by decide +kernel
theorem dX3_planByGuess_50 : decode cX3_planByGuess 50 = .ok (.i2l, 1) := by decide +kernel
theorem dX3_planByGuess_51 : decode cX3_planByGuess 51 = .ok (.invokestatic 75, 3) := by decide +kernel
theorem dX3_planByGuess_54 : decode cX3_planByGuess 54 = .ok (.l2i, 1) := by decide +kernel
theorem dX3_planByGuess_55 : decode cX3_planByGuess 55 = .ok (.ireturn, 1) := by decide +kernel
set_option maxRecDepth 20000 in
theorem ggX4_init_X1_init : GoodIn wsX4_init wsX1_init := goodIn_r _ [5, 6, 7, 8, 9, 10, 11, 12, 13, 14, 18, 19, 15, 16, 17] (by decide +kernel) (by decide +kernel)
set_option maxRecDepth 20000 in
theorem gX4_init_X1_init : GoodIn wsX4_init (wsX1_init) := ggX4_init_X1_init
theorem dX4_init_0 : decode cX4_init 0 = .ok (.aload_n 0, 1) := by decide +kernel
theorem dX4_init_1 : decode cX4_init 1 = .ok (.iload_n 1, 1) := by decide +kernel
theorem dX4_init_2 : decode cX4_init 2 = .ok (.iload_n 3, 1) := by decide +kernel
theorem dX4_init_3 : decode cX4_init 3 = .ok (.invokespecial 3, 3) := by decide +kernel
theorem dX4_init_6 : decode cX4_init 6 = .ok (.aload_n 0, 1) := by decide +kernel
theorem dX4_init_7 : decode cX4_init 7 = .ok (.iload_n 2, 1) := by decide +kernel
theorem dX4_init_8 : decode cX4_init 8 = .ok (.putfield 9, 3) := by decide +kernel
theorem dX4_init_11 : decode cX4_init 11 = .ok (.return_, 1) := by decide +kernel
theorem dX4_kindNumber_0 : decode cX4_kindNumber 0 = .ok (.iconst 1, 1) := by decide +kernel
theorem dX4_kindNumber_1 : decode cX4_kindNumber 1 = .ok (.ireturn, 1) := by decide +kernel
set_option maxRecDepth 20000 in
theorem ggX4_rentOf_X1_rentOf : GoodIn wsX4_rentOf wsX1_rentOf := goodIn_r _ [7, 8, 9, 10, 11, 12, 16, 17, 13, 14, 15] (by decide +kernel) (by decide +kernel)
set_option maxRecDepth 20000 in
theorem gX4_rentOf_X1_rentOf_s15 : GoodIn wsX4_rentOf (va_wsSU RX4 15 yX1_rentOf wsX1_rentOf) := goodIn_app (goodIn_of _ (by decide +kernel)) ggX4_rentOf_X1_rentOf
theorem dX4_rentOf_0 : decode cX4_rentOf 0 = .ok (.aload_n 0, 1) := by decide +kernel
theorem dX4_rentOf_1 : decode cX4_rentOf 1 = .ok (.iload_n 1, 1) := by decide +kernel
theorem dX4_rentOf_2 : decode cX4_rentOf 2 = .ok (.invokespecial 15, 3) := by decide +kernel
theorem dX4_rentOf_5 : decode cX4_rentOf 5 = .ok (.aload_n 0, 1) := by decide +kernel
theorem dX4_rentOf_6 : decode cX4_rentOf 6 = .ok (.getfield 9, 3) := by decide +kernel
theorem dX4_rentOf_9 : decode cX4_rentOf 9 = .ok (.iload_n 1, 1) := by decide +kernel
theorem dX4_rentOf_10 : decode cX4_rentOf 10 = .ok (.iconst 1, 1) := by decide +kernel
theorem dX4_rentOf_11 : decode cX4_rentOf 11 = .ok (.isub, 1) := by decide +kernel
theorem dX4_rentOf_12 : decode cX4_rentOf 12 = .ok (.imul, 1) := by decide +kernel
theorem dX4_rentOf_13 : decode cX4_rentOf 13 = .ok (.iadd, 1) := by decide +kernel
theorem dX4_rentOf_14 : decode cX4_rentOf 14 = .ok (.ireturn, 1) := by decide +kernel
set_option maxRecDepth 20000 in
theorem ggX4_bodiesAsked_X1_bodiesAsked : GoodIn wsX4_bodiesAsked wsX1_bodiesAsked := goodIn_r _ [6] (by decide +kernel) (by decide +kernel)
set_option maxRecDepth 20000 in
theorem gX4_bodiesAsked_X1_bodiesAsked_s19 : GoodIn wsX4_bodiesAsked (va_wsSU RX4 19 yX1_bodiesAsked wsX1_bodiesAsked) := goodIn_app (goodIn_of _ (by decide +kernel)) ggX4_bodiesAsked_X1_bodiesAsked
theorem dX4_bodiesAsked_0 : decode cX4_bodiesAsked 0 = .ok (.aload_n 0, 1) := by decide +kernel
theorem dX4_bodiesAsked_1 : decode cX4_bodiesAsked 1 = .ok (.invokespecial 19, 3) := by decide +kernel
theorem dX4_bodiesAsked_4 : decode cX4_bodiesAsked 4 = .ok (.bipush 10, 2) := by decide +kernel
theorem dX4_bodiesAsked_6 : decode cX4_bodiesAsked 6 = .ok (.iadd, 1) := by decide +kernel
theorem dX4_bodiesAsked_7 : decode cX4_bodiesAsked 7 = .ok (.ireturn, 1) := by decide +kernel
set_option maxRecDepth 20000 in
theorem ggX5_init_X5_findOrders : GoodIn wsX5_init wsX5_findOrders := goodIn_r _ [14, 15, 6, 16, 17, 18, 13, 19, 8, 20, 21, 22, 23, 24, 25, 26, 27, 28] (by decide +kernel) (by decide +kernel)
set_option maxRecDepth 20000 in
theorem gX5_init_X5_findOrders : GoodIn wsX5_init (wsV RX5 28 RX5 yX5_findOrders wsX5_findOrders) := goodIn_app (goodIn_of _ (by decide +kernel)) ggX5_init_X5_findOrders
theorem dX5_init_0 : decode cX5_init 0 = .ok (.aload_n 0, 1) := by decide +kernel
theorem dX5_init_1 : decode cX5_init 1 = .ok (.invokespecial 3, 3) := by decide +kernel
theorem dX5_init_4 : decode cX5_init 4 = .ok (.aload_n 0, 1) := by decide +kernel
theorem dX5_init_5 : decode cX5_init 5 = .ok (.bipush 16, 2) := by decide +kernel
theorem dX5_init_7 : decode cX5_init 7 = .ok (.newarray .int, 2) := by decide +kernel
theorem dX5_init_9 : decode cX5_init 9 = .ok (.putfield 9, 3) := by decide +kernel
theorem dX5_init_12 : decode cX5_init 12 = .ok (.aload_n 0, 1) := by decide +kernel
theorem dX5_init_13 : decode cX5_init 13 = .ok (.bipush 24, 2) := by decide +kernel
theorem dX5_init_15 : decode cX5_init 15 = .ok (.newarray .int, 2) := by decide +kernel
theorem dX5_init_17 : decode cX5_init 17 = .ok (.putfield 15, 3) := by decide +kernel
theorem dX5_init_20 : decode cX5_init 20 = .ok (.aload_n 0, 1) := by decide +kernel
theorem dX5_init_21 : decode cX5_init 21 = .ok (.sipush 256, 3) := by decide +kernel
theorem dX5_init_24 : decode cX5_init 24 = .ok (.newarray .int, 2) := by decide +kernel
theorem dX5_init_26 : decode cX5_init 26 = .ok (.putfield 18, 3) := by decide +kernel
theorem dX5_init_29 : decode cX5_init 29 = .ok (.aload_n 0, 1) := by decide +kernel
theorem dX5_init_30 : decode cX5_init 30 = .ok (.iconst 3, 1) := by decide +kernel
theorem dX5_init_31 : decode cX5_init 31 = .ok (.putfield 21, 3) := by decide +kernel
theorem dX5_init_34 : decode cX5_init 34 = .ok (.aload_n 0, 1) := by decide +kernel
theorem dX5_init_35 : decode cX5_init 35 = .ok (.iconst 0, 1) := by decide +kernel
theorem dX5_init_36 : decode cX5_init 36 = .ok (.putfield 25, 3) := by decide +kernel
theorem dX5_init_39 : decode cX5_init 39 = .ok (.aload_n 0, 1) := by decide +kernel
theorem dX5_init_40 : decode cX5_init 40 = .ok (.invokevirtual 28, 3) := by decide +kernel
theorem dX5_init_43 : decode cX5_init 43 = .ok (.return_, 1) := by decide +kernel
set_option maxRecDepth 20000 in
theorem ggX5_restart_X5_findOrders : GoodIn wsX5_restart wsX5_findOrders := goodIn_r _ [7, 8, 9, 10, 11, 12, 6, 13, 1, 14, 15, 16, 17, 18, 19, 20, 21, 22] (by decide +kernel) (by decide +kernel)
set_option maxRecDepth 20000 in
theorem gX5_restart_X5_findOrders : GoodIn wsX5_restart (wsV RX5 28 RX5 yX5_findOrders wsX5_findOrders) := goodIn_app (goodIn_of _ (by decide +kernel)) ggX5_restart_X5_findOrders
theorem dX5_restart_0 : decode cX5_restart 0 = .ok (.aload_n 0, 1) := by decide +kernel
theorem dX5_restart_1 : decode cX5_restart 1 = .ok (.iload_n 1, 1) := by decide +kernel
theorem dX5_restart_2 : decode cX5_restart 2 = .ok (.putfield 21, 3) := by decide +kernel
theorem dX5_restart_5 : decode cX5_restart 5 = .ok (.aload_n 0, 1) := by decide +kernel
theorem dX5_restart_6 : decode cX5_restart 6 = .ok (.iconst 0, 1) := by decide +kernel
theorem dX5_restart_7 : decode cX5_restart 7 = .ok (.putfield 25, 3) := by decide +kernel
theorem dX5_restart_10 : decode cX5_restart 10 = .ok (.aload_n 0, 1) := by decide +kernel
theorem dX5_restart_11 : decode cX5_restart 11 = .ok (.invokevirtual 28, 3) := by decide +kernel
theorem dX5_restart_14 : decode cX5_restart 14 = .ok (.return_, 1) := by decide +kernel
set_option maxRecDepth 20000 in
theorem ggX5_findOrders_X5_isOrder : GoodIn wsX5_findOrders wsX5_isOrder := goodIn_r _ [7, 8, 9, 10, 6, 11, 12, 13, 14, 15, 16, 17] (by decide +kernel) (by decide +kernel)
set_option maxRecDepth 20000 in
theorem gX5_findOrders_X5_isOrder : GoodIn wsX5_findOrders (wsV RX5 34 RX5 yX5_isOrder wsX5_isOrder) := goodIn_app (goodIn_of _ (by decide +kernel)) ggX5_findOrders_X5_isOrder
theorem dX5_findOrders_0 : decode cX5_findOrders 0 = .ok (.aload_n 0, 1) := by decide +kernel
theorem dX5_findOrders_1 : decode cX5_findOrders 1 = .ok (.iconst 0, 1) := by decide +kernel
theorem dX5_findOrders_2 : decode cX5_findOrders 2 = .ok (.putfield 31, 3) := by decide +kernel
theorem dX5_findOrders_5 : decode cX5_findOrders 5 = .ok (.iconst 0, 1) := by decide +kernel
theorem dX5_findOrders_6 : decode cX5_findOrders 6 = .ok (.istore_n 1, 1) := by decide +kernel
theorem dX5_findOrders_7 : decode cX5_findOrders 7 = .ok (.iload_n 1, 1) := by decide +kernel
theorem dX5_findOrders_8 : decode cX5_findOrders 8 = .ok (.sipush 256, 3) := by decide +kernel
theorem dX5_findOrders_11 : decode cX5_findOrders 11 = .ok (.if_icmp .ge 46, 3) := by decide +kernel
theorem dX5_findOrders_14 : decode cX5_findOrders 14 = .ok (.aload_n 0, 1) := by decide +kernel
theorem dX5_findOrders_15 : decode cX5_findOrders 15 = .ok (.getfield 31, 3) := by decide +kernel
theorem dX5_findOrders_18 : decode cX5_findOrders 18 = .ok (.bipush 24, 2) := by decide +kernel
theorem dX5_findOrders_20 : decode cX5_findOrders 20 = .ok (.if_icmp .ge 37, 3) := by decide +kernel
theorem dX5_findOrders_23 : decode cX5_findOrders 23 = .ok (.aload_n 0, 1) := by decide +kernel
theorem dX5_findOrders_24 : decode cX5_findOrders 24 = .ok (.iload_n 1, 1) := by decide +kernel
theorem dX5_findOrders_25 : decode cX5_findOrders 25 = .ok (.invokevirtual 34, 3) := by decide +kernel
theorem dX5_findOrders_28 : decode cX5_findOrders 28 = .ok (.ifCond .eq 23, 3) := by decide +kernel
theorem dX5_findOrders_31 : decode cX5_findOrders 31 = .ok (.aload_n 0, 1) := by decide +kernel
theorem dX5_findOrders_32 : decode cX5_findOrders 32 = .ok (.getfield 15, 3) := by decide +kernel
theorem dX5_findOrders_35 : decode cX5_findOrders 35 = .ok (.aload_n 0, 1) := by decide +kernel
theorem dX5_findOrders_36 : decode cX5_findOrders 36 = .ok (.getfield 31, 3) := by decide +kernel
theorem dX5_findOrders_39 : decode cX5_findOrders 39 = .ok (.iload_n 1, 1) := by decide +kernel
theorem dX5_findOrders_40 : decode cX5_findOrders 40 = .ok (.iastore, 1) := by decide +kernel
theorem dX5_findOrders_41 : decode cX5_findOrders 41 = .ok (.aload_n 0, 1) := by decide +kernel
theorem dX5_findOrders_42 : decode cX5_findOrders 42 = .ok (.dup, 1) := by decide +kernel
theorem dX5_findOrders_43 : decode cX5_findOrders 43 = .ok (.getfield 31, 3) := by decide +kernel
theorem dX5_findOrders_46 : decode cX5_findOrders 46 = .ok (.iconst 1, 1) := by decide +kernel
theorem dX5_findOrders_47 : decode cX5_findOrders 47 = .ok (.iadd, 1) := by decide +kernel
theorem dX5_findOrders_48 : decode cX5_findOrders 48 = .ok (.putfield 31, 3) := by decide +kernel
theorem dX5_findOrders_51 : decode cX5_findOrders 51 = .ok (.iinc 1 1, 3) := by decide +kernel
theorem dX5_findOrders_54 : decode cX5_findOrders 54 = .ok (.goto (-47), 3) := by decide +kernel
theorem dX5_findOrders_57 : decode cX5_findOrders 57 = .ok (.return_, 1) := by decide +kernel
set_option maxRecDepth 20000 in
theorem ggX5_isOrder_X5_thingAt : GoodIn wsX5_isOrder wsX5_thingAt := goodIn_r _ [5] (by decide +kernel) (by decide +kernel)
set_option maxRecDepth 20000 in
theorem gX5_isOrder_X5_thingAt : GoodIn wsX5_isOrder (va_wsS RX5 38 yX5_thingAt wsX5_thingAt) := goodIn_app (goodIn_of _ (by decide +kernel)) ggX5_isOrder_X5_thingAt
theorem dX5_isOrder_0 : decode cX5_isOrder 0 = .ok (.iconst 0, 1) := by decide +kernel
theorem dX5_isOrder_1 : decode cX5_isOrder 1 = .ok (.istore_n 2, 1) := by decide +kernel
theorem dX5_isOrder_2 : decode cX5_isOrder 2 = .ok (.iconst 0, 1) := by decide +kernel
theorem dX5_isOrder_3 : decode cX5_isOrder 3 = .ok (.istore_n 3, 1) := by decide +kernel
theorem dX5_isOrder_4 : decode cX5_isOrder 4 = .ok (.iload_n 3, 1) := by decide +kernel
theorem dX5_isOrder_5 : decode cX5_isOrder 5 = .ok (.aload_n 0, 1) := by decide +kernel
theorem dX5_isOrder_6 : decode cX5_isOrder 6 = .ok (.getfield 21, 3) := by decide +kernel
theorem dX5_isOrder_9 : decode cX5_isOrder 9 = .ok (.if_icmp .ge 19, 3) := by decide +kernel
theorem dX5_isOrder_12 : decode cX5_isOrder 12 = .ok (.iload_n 2, 1) := by decide +kernel
theorem dX5_isOrder_13 : decode cX5_isOrder 13 = .ok (.iconst 1, 1) := by decide +kernel
theorem dX5_isOrder_14 : decode cX5_isOrder 14 = .ok (.iload_n 1, 1) := by decide +kernel
theorem dX5_isOrder_15 : decode cX5_isOrder 15 = .ok (.iload_n 3, 1) := by decide +kernel
theorem dX5_isOrder_16 : decode cX5_isOrder 16 = .ok (.invokestatic 38, 3) := by decide +kernel
theorem dX5_isOrder_19 : decode cX5_isOrder 19 = .ok (.ishl, 1) := by decide +kernel
theorem dX5_isOrder_20 : decode cX5_isOrder 20 = .ok (.ior, 1) := by decide +kernel
theorem dX5_isOrder_21 : decode cX5_isOrder 21 = .ok (.istore_n 2, 1) := by decide +kernel
theorem dX5_isOrder_22 : decode cX5_isOrder 22 = .ok (.iinc 3 1, 3) := by decide +kernel
theorem dX5_isOrder_25 : decode cX5_isOrder 25 = .ok (.goto (-21), 3) := by decide +kernel
theorem dX5_isOrder_28 : decode cX5_isOrder 28 = .ok (.iload_n 2, 1) := by decide +kernel
theorem dX5_isOrder_29 : decode cX5_isOrder 29 = .ok (.iconst 1, 1) := by decide +kernel
theorem dX5_isOrder_30 : decode cX5_isOrder 30 = .ok (.aload_n 0, 1) := by decide +kernel
theorem dX5_isOrder_31 : decode cX5_isOrder 31 = .ok (.getfield 21, 3) := by decide +kernel
theorem dX5_isOrder_34 : decode cX5_isOrder 34 = .ok (.ishl, 1) := by decide +kernel
theorem dX5_isOrder_35 : decode cX5_isOrder 35 = .ok (.iconst 1, 1) := by decide +kernel
theorem dX5_isOrder_36 : decode cX5_isOrder 36 = .ok (.isub, 1) := by decide +kernel
theorem dX5_isOrder_37 : decode cX5_isOrder 37 = .ok (.if_icmp .ne 18, 3) := by decide +kernel
theorem dX5_isOrder_40 : decode cX5_isOrder 40 = .ok (.iload_n 1, 1) := by decide +kernel
theorem dX5_isOrder_41 : decode cX5_isOrder 41 = .ok (.iconst 2, 1) := by decide +kernel
theorem dX5_isOrder_42 : decode cX5_isOrder 42 = .ok (.aload_n 0, 1) := by decide +kernel
theorem dX5_isOrder_43 : decode cX5_isOrder 43 = .ok (.getfield 21, 3) := by decide +kernel
theorem dX5_isOrder_46 : decode cX5_isOrder 46 = .ok (.imul, 1) := by decide +kernel
theorem dX5_isOrder_47 : decode cX5_isOrder 47 = .ok (.ishr, 1) := by decide +kernel
theorem dX5_isOrder_48 : decode cX5_isOrder 48 = .ok (.ifCond .ne 7, 3) := by decide +kernel
theorem dX5_isOrder_51 : decode cX5_isOrder 51 = .ok (.iconst 1, 1) := by decide +kernel
theorem dX5_isOrder_52 : decode cX5_isOrder 52 = .ok (.goto 4, 3) := by decide +kernel
theorem dX5_isOrder_55 : decode cX5_isOrder 55 = .ok (.iconst 0, 1) := by decide +kernel
theorem dX5_isOrder_56 : decode cX5_isOrder 56 = .ok (.ireturn, 1) := by decide +kernel
theorem dX5_firstOrder_0 : decode cX5_firstOrder 0 = .ok (.iconst 0, 1) := by decide +kernel
theorem dX5_firstOrder_1 : decode cX5_firstOrder 1 = .ok (.istore_n 1, 1) := by decide +kernel
theorem dX5_firstOrder_2 : decode cX5_firstOrder 2 = .ok (.iconst 0, 1) := by decide +kernel
theorem dX5_firstOrder_3 : decode cX5_firstOrder 3 = .ok (.istore_n 2, 1) := by decide +kernel
theorem dX5_firstOrder_4 : decode cX5_firstOrder 4 = .ok (.iload_n 2, 1) := by decide +kernel
theorem dX5_firstOrder_5 : decode cX5_firstOrder 5 = .ok (.aload_n 0, 1) := by decide +kernel
theorem dX5_firstOrder_6 : decode cX5_firstOrder 6 = .ok (.getfield 21, 3) := by decide +kernel
theorem dX5_firstOrder_9 : decode cX5_firstOrder 9 = .ok (.if_icmp .ge 17, 3) := by decide +kernel
theorem dX5_firstOrder_12 : decode cX5_firstOrder 12 = .ok (.iload_n 1, 1) := by decide +kernel
theorem dX5_firstOrder_13 : decode cX5_firstOrder 13 = .ok (.iload_n 2, 1) := by decide +kernel
theorem dX5_firstOrder_14 : decode cX5_firstOrder 14 = .ok (.iconst 2, 1) := by decide +kernel
theorem dX5_firstOrder_15 : decode cX5_firstOrder 15 = .ok (.iload_n 2, 1) := by decide +kernel
theorem dX5_firstOrder_16 : decode cX5_firstOrder 16 = .ok (.imul, 1) := by decide +kernel
theorem dX5_firstOrder_17 : decode cX5_firstOrder 17 = .ok (.ishl, 1) := by decide +kernel
theorem dX5_firstOrder_18 : decode cX5_firstOrder 18 = .ok (.ior, 1) := by decide +kernel
theorem dX5_firstOrder_19 : decode cX5_firstOrder 19 = .ok (.istore_n 1, 1) := by decide +kernel
theorem dX5_firstOrder_20 : decode cX5_firstOrder 20 = .ok (.iinc 2 1, 3) := by decide +kernel
theorem dX5_firstOrder_23 : decode cX5_firstOrder 23 = .ok (.goto (-19), 3) := by decide +kernel
theorem dX5_firstOrder_26 : decode cX5_firstOrder 26 = .ok (.iload_n 1, 1) := by decide +kernel
theorem dX5_firstOrder_27 : decode cX5_firstOrder 27 = .ok (.ireturn, 1) := by decide +kernel
theorem dX5_thingAt_0 : decode cX5_thingAt 0 = .ok (.iload_n 0, 1) := by decide +kernel
theorem dX5_thingAt_1 : decode cX5_thingAt 1 = .ok (.iconst 2, 1) := by decide +kernel
theorem dX5_thingAt_2 : decode cX5_thingAt 2 = .ok (.iload_n 1, 1) := by decide +kernel
theorem dX5_thingAt_3 : decode cX5_thingAt 3 = .ok (.imul, 1) := by decide +kernel
theorem dX5_thingAt_4 : decode cX5_thingAt 4 = .ok (.ishr, 1) := by decide +kernel
theorem dX5_thingAt_5 : decode cX5_thingAt 5 = .ok (.iconst 3, 1) := by decide +kernel
theorem dX5_thingAt_6 : decode cX5_thingAt 6 = .ok (.iand, 1) := by decide +kernel
theorem dX5_thingAt_7 : decode cX5_thingAt 7 = .ok (.ireturn, 1) := by decide +kernel
set_option maxRecDepth 20000 in
theorem ggX5_placeOf_X5_thingAt : GoodIn wsX5_placeOf wsX5_thingAt := goodIn_r _ [5] (by decide +kernel) (by decide +kernel)
set_option maxRecDepth 20000 in
theorem gX5_placeOf_X5_thingAt : GoodIn wsX5_placeOf (va_wsS RX5 38 yX5_thingAt wsX5_thingAt) := goodIn_app (goodIn_of _ (by decide +kernel)) ggX5_placeOf_X5_thingAt
theorem dX5_placeOf_0 : decode cX5_placeOf 0 = .ok (.iconst 0, 1) := by decide +kernel
theorem dX5_placeOf_1 : decode cX5_placeOf 1 = .ok (.istore_n 3, 1) := by decide +kernel
theorem dX5_placeOf_2 : decode cX5_placeOf 2 = .ok (.iload_n 3, 1) := by decide +kernel
theorem dX5_placeOf_3 : decode cX5_placeOf 3 = .ok (.aload_n 0, 1) := by decide +kernel
theorem dX5_placeOf_4 : decode cX5_placeOf 4 = .ok (.getfield 21, 3) := by decide +kernel
theorem dX5_placeOf_7 : decode cX5_placeOf 7 = .ok (.iconst 1, 1) := by decide +kernel
theorem dX5_placeOf_8 : decode cX5_placeOf 8 = .ok (.isub, 1) := by decide +kernel
theorem dX5_placeOf_9 : decode cX5_placeOf 9 = .ok (.if_icmp .ge 18, 3) := by decide +kernel
theorem dX5_placeOf_12 : decode cX5_placeOf 12 = .ok (.iload_n 1, 1) := by decide +kernel
theorem dX5_placeOf_13 : decode cX5_placeOf 13 = .ok (.iload_n 3, 1) := by decide +kernel
theorem dX5_placeOf_14 : decode cX5_placeOf 14 = .ok (.invokestatic 38, 3) := by decide +kernel
theorem dX5_placeOf_17 : decode cX5_placeOf 17 = .ok (.iload_n 2, 1) := by decide +kernel
theorem dX5_placeOf_18 : decode cX5_placeOf 18 = .ok (.if_icmp .eq 9, 3) := by decide +kernel
theorem dX5_placeOf_21 : decode cX5_placeOf 21 = .ok (.iinc 3 1, 3) := by decide +kernel
theorem dX5_placeOf_24 : decode cX5_placeOf 24 = .ok (.goto (-22), 3) := by decide +kernel
theorem dX5_placeOf_27 : decode cX5_placeOf 27 = .ok (.iload_n 3, 1) := by decide +kernel
theorem dX5_placeOf_28 : decode cX5_placeOf 28 = .ok (.ireturn, 1) := by decide +kernel
set_option maxRecDepth 20000 in
theorem ggX5_exchanged_X5_thingAt : GoodIn wsX5_exchanged wsX5_thingAt := goodIn_r _ [4] (by decide +kernel) (by decide +kernel)
set_option maxRecDepth 20000 in
theorem gX5_exchanged_X5_thingAt : GoodIn wsX5_exchanged (va_wsS RX5 38 yX5_thingAt wsX5_thingAt) := goodIn_app (goodIn_of _ (by decide +kernel)) ggX5_exchanged_X5_thingAt
theorem dX5_exchanged_0 : decode cX5_exchanged 0 = .ok (.iload_n 0, 1) := by decide +kernel
theorem dX5_exchanged_1 : decode cX5_exchanged 1 = .ok (.iload_n 1, 1) := by decide +kernel
theorem dX5_exchanged_2 : decode cX5_exchanged 2 = .ok (.invokestatic 38, 3) := by decide +kernel
theorem dX5_exchanged_5 : decode cX5_exchanged 5 = .ok (.iload_n 0, 1) := by decide +kernel
theorem dX5_exchanged_6 : decode cX5_exchanged 6 = .ok (.iload_n 1, 1) := by decide +kernel
theorem dX5_exchanged_7 : decode cX5_exchanged 7 = .ok (.iconst 1, 1) := by decide +kernel
theorem dX5_exchanged_8 : decode cX5_exchanged 8 = .ok (.iadd, 1) := by decide +kernel
theorem dX5_exchanged_9 : decode cX5_exchanged 9 = .ok (.invokestatic 38, 3) := by decide +kernel
theorem dX5_exchanged_12 : decode cX5_exchanged 12 = .ok (.ixor, 1) := by decide +kernel
theorem dX5_exchanged_13 : decode cX5_exchanged 13 = .ok (.istore_n 2, 1) := by decide +kernel
theorem dX5_exchanged_14 : decode cX5_exchanged 14 = .ok (.iload_n 0, 1) := by decide +kernel
theorem dX5_exchanged_15 : decode cX5_exchanged 15 = .ok (.iload_n 2, 1) := by decide +kernel
theorem dX5_exchanged_16 : decode cX5_exchanged 16 = .ok (.iconst 2, 1) := by decide +kernel
theorem dX5_exchanged_17 : decode cX5_exchanged 17 = .ok (.iload_n 1, 1) := by decide +kernel
theorem dX5_exchanged_18 : decode cX5_exchanged 18 = .ok (.imul, 1) := by decide +kernel
theorem dX5_exchanged_19 : decode cX5_exchanged 19 = .ok (.ishl, 1) := by decide +kernel
theorem dX5_exchanged_20 : decode cX5_exchanged 20 = .ok (.ixor, 1) := by decide +kernel
theorem dX5_exchanged_21 : decode cX5_exchanged 21 = .ok (.iload_n 2, 1) := by decide +kernel
theorem dX5_exchanged_22 : decode cX5_exchanged 22 = .ok (.iconst 2, 1) := by decide +kernel
theorem dX5_exchanged_23 : decode cX5_exchanged 23 = .ok (.iload_n 1, 1) := by decide +kernel
theorem dX5_exchanged_24 : decode cX5_exchanged 24 = .ok (.iconst 1, 1) := by decide +kernel
theorem dX5_exchanged_25 : decode cX5_exchanged 25 = .ok (.iadd, 1) := by decide +kernel
theorem dX5_exchanged_26 : decode cX5_exchanged 26 = .ok (.imul, 1) := by decide +kernel
theorem dX5_exchanged_27 : decode cX5_exchanged 27 = .ok (.ishl, 1) := by decide +kernel
theorem dX5_exchanged_28 : decode cX5_exchanged 28 = .ok (.ixor, 1) := by decide +kernel
theorem dX5_exchanged_29 : decode cX5_exchanged 29 = .ok (.ireturn, 1) := by decide +kernel
set_option maxRecDepth 20000 in
theorem ggX5_movedToFront_X5_placeOf : GoodIn wsX5_movedToFront wsX5_placeOf := goodIn_r _ [5, 6, 7, 8, 4, 9, 13, 14, 15, 16, 17, 18] (by decide +kernel) (by decide +kernel)
set_option maxRecDepth 20000 in
theorem gX5_movedToFront_X5_placeOf : GoodIn wsX5_movedToFront (wsV RX5 42 RX5 yX5_placeOf wsX5_placeOf) := goodIn_app (goodIn_of _ (by decide +kernel)) ggX5_movedToFront_X5_placeOf
set_option maxRecDepth 20000 in
theorem ggX5_movedToFront_X5_exchanged : GoodIn wsX5_movedToFront wsX5_exchanged := goodIn_r _ [12, 7, 8, 4, 9] (by decide +kernel) (by decide +kernel)
set_option maxRecDepth 20000 in
theorem gX5_movedToFront_X5_exchanged : GoodIn wsX5_movedToFront (va_wsS RX5 45 yX5_exchanged wsX5_exchanged) := goodIn_app (goodIn_of _ (by decide +kernel)) ggX5_movedToFront_X5_exchanged
theorem dX5_movedToFront_0 : decode cX5_movedToFront 0 = .ok (.iload_n 1, 1) := by decide +kernel
theorem dX5_movedToFront_1 : decode cX5_movedToFront 1 = .ok (.istore_n 3, 1) := by decide +kernel
theorem dX5_movedToFront_2 : decode cX5_movedToFront 2 = .ok (.aload_n 0, 1) := by decide +kernel
theorem dX5_movedToFront_3 : decode cX5_movedToFront 3 = .ok (.iload_n 1, 1) := by decide +kernel
theorem dX5_movedToFront_4 : decode cX5_movedToFront 4 = .ok (.iload_n 2, 1) := by decide +kernel
theorem dX5_movedToFront_5 : decode cX5_movedToFront 5 = .ok (.invokevirtual 42, 3) := by decide +kernel
theorem dX5_movedToFront_8 : decode cX5_movedToFront 8 = .ok (.istore 4, 2) := by decide +kernel
theorem dX5_movedToFront_10 : decode cX5_movedToFront 10 = .ok (.iload 4, 2) := by decide +kernel
theorem dX5_movedToFront_12 : decode cX5_movedToFront 12 = .ok (.ifCond .le 18, 3) := by decide +kernel
theorem dX5_movedToFront_15 : decode cX5_movedToFront 15 = .ok (.iload_n 3, 1) := by decide +kernel
theorem dX5_movedToFront_16 : decode cX5_movedToFront 16 = .ok (.iload 4, 2) := by decide +kernel
theorem dX5_movedToFront_18 : decode cX5_movedToFront 18 = .ok (.iconst 1, 1) := by decide +kernel
theorem dX5_movedToFront_19 : decode cX5_movedToFront 19 = .ok (.isub, 1) := by decide +kernel
theorem dX5_movedToFront_20 : decode cX5_movedToFront 20 = .ok (.invokestatic 45, 3) := by decide +kernel
theorem dX5_movedToFront_23 : decode cX5_movedToFront 23 = .ok (.istore_n 3, 1) := by decide +kernel
theorem dX5_movedToFront_24 : decode cX5_movedToFront 24 = .ok (.iinc 4 (-1), 3) := by decide +kernel
theorem dX5_movedToFront_27 : decode cX5_movedToFront 27 = .ok (.goto (-17), 3) := by decide +kernel
theorem dX5_movedToFront_30 : decode cX5_movedToFront 30 = .ok (.iload_n 3, 1) := by decide +kernel
theorem dX5_movedToFront_31 : decode cX5_movedToFront 31 = .ok (.ireturn, 1) := by decide +kernel
set_option maxRecDepth 20000 in
theorem ggX5_frontOrder_X5_firstOrder : GoodIn wsX5_frontOrder wsX5_firstOrder := goodIn_r _ [7, 8, 23, 24, 25, 26, 27, 28] (by decide +kernel) (by decide +kernel)
set_option maxRecDepth 20000 in
theorem gX5_frontOrder_X5_firstOrder : GoodIn wsX5_frontOrder (wsV RX5 48 RX5 yX5_firstOrder wsX5_firstOrder) := goodIn_app (goodIn_of _ (by decide +kernel)) ggX5_frontOrder_X5_firstOrder
set_option maxRecDepth 20000 in
theorem ggX5_frontOrder_X5_movedToFront : GoodIn wsX5_frontOrder wsX5_movedToFront := goodIn_r _ [12, 13, 14, 15, 6, 16, 8, 17, 18, 19, 20, 21, 22, 23, 24, 25, 26, 27, 28] (by decide +kernel) (by decide +kernel)
set_option maxRecDepth 20000 in
theorem gX5_frontOrder_X5_movedToFront : GoodIn wsX5_frontOrder (wsV RX5 52 RX5 yX5_movedToFront wsX5_movedToFront) := goodIn_app (goodIn_of _ (by decide +kernel)) ggX5_frontOrder_X5_movedToFront
theorem dX5_frontOrder_0 : decode cX5_frontOrder 0 = .ok (.aload_n 0, 1) := by decide +kernel
theorem dX5_frontOrder_1 : decode cX5_frontOrder 1 = .ok (.invokevirtual 48, 3) := by decide +kernel
theorem dX5_frontOrder_4 : decode cX5_frontOrder 4 = .ok (.istore_n 1, 1) := by decide +kernel
theorem dX5_frontOrder_5 : decode cX5_frontOrder 5 = .ok (.iconst 0, 1) := by decide +kernel
theorem dX5_frontOrder_6 : decode cX5_frontOrder 6 = .ok (.istore_n 2, 1) := by decide +kernel
theorem dX5_frontOrder_7 : decode cX5_frontOrder 7 = .ok (.iload_n 2, 1) := by decide +kernel
theorem dX5_frontOrder_8 : decode cX5_frontOrder 8 = .ok (.aload_n 0, 1) := by decide +kernel
theorem dX5_frontOrder_9 : decode cX5_frontOrder 9 = .ok (.getfield 25, 3) := by decide +kernel
theorem dX5_frontOrder_12 : decode cX5_frontOrder 12 = .ok (.if_icmp .ge 21, 3) := by decide +kernel
theorem dX5_frontOrder_15 : decode cX5_frontOrder 15 = .ok (.aload_n 0, 1) := by decide +kernel
theorem dX5_frontOrder_16 : decode cX5_frontOrder 16 = .ok (.iload_n 1, 1) := by decide +kernel
theorem dX5_frontOrder_17 : decode cX5_frontOrder 17 = .ok (.aload_n 0, 1) := by decide +kernel
theorem dX5_frontOrder_18 : decode cX5_frontOrder 18 = .ok (.getfield 9, 3) := by decide +kernel
theorem dX5_frontOrder_21 : decode cX5_frontOrder 21 = .ok (.iload_n 2, 1) := by decide +kernel
theorem dX5_frontOrder_22 : decode cX5_frontOrder 22 = .ok (.iaload, 1) := by decide +kernel
theorem dX5_frontOrder_23 : decode cX5_frontOrder 23 = .ok (.invokevirtual 52, 3) := by decide +kernel
theorem dX5_frontOrder_26 : decode cX5_frontOrder 26 = .ok (.istore_n 1, 1) := by decide +kernel
theorem dX5_frontOrder_27 : decode cX5_frontOrder 27 = .ok (.iinc 2 1, 3) := by decide +kernel
theorem dX5_frontOrder_30 : decode cX5_frontOrder 30 = .ok (.goto (-23), 3) := by decide +kernel
theorem dX5_frontOrder_33 : decode cX5_frontOrder 33 = .ok (.iload_n 1, 1) := by decide +kernel
theorem dX5_frontOrder_34 : decode cX5_frontOrder 34 = .ok (.ireturn, 1) := by decide +kernel
set_option maxRecDepth 20000 in
theorem ggX5_frontCost_X5_firstOrder : GoodIn wsX5_frontCost wsX5_firstOrder := goodIn_r _ [7, 8, 23, 24, 25, 26, 27, 28] (by decide +kernel) (by decide +kernel)
set_option maxRecDepth 20000 in
theorem gX5_frontCost_X5_firstOrder : GoodIn wsX5_frontCost (wsV RX5 48 RX5 yX5_firstOrder wsX5_firstOrder) := goodIn_app (goodIn_of _ (by decide +kernel)) ggX5_frontCost_X5_firstOrder
set_option maxRecDepth 20000 in
theorem ggX5_frontCost_X5_placeOf : GoodIn wsX5_frontCost wsX5_placeOf := goodIn_r _ [12, 8, 13, 14, 6, 15, 23, 24, 25, 26, 27, 28] (by decide +kernel) (by decide +kernel)
set_option maxRecDepth 20000 in
theorem gX5_frontCost_X5_placeOf : GoodIn wsX5_frontCost (wsV RX5 42 RX5 yX5_placeOf wsX5_placeOf) := goodIn_app (goodIn_of _ (by decide +kernel)) ggX5_frontCost_X5_placeOf
set_option maxRecDepth 20000 in
theorem ggX5_frontCost_X5_movedToFront : GoodIn wsX5_frontCost wsX5_movedToFront := goodIn_r _ [19, 9, 10, 11, 6, 12, 8, 13, 14, 15, 20, 21, 22, 23, 24, 25, 26, 27, 28] (by decide +kernel) (by decide +kernel)
set_option maxRecDepth 20000 in
theorem gX5_frontCost_X5_movedToFront : GoodIn wsX5_frontCost (wsV RX5 52 RX5 yX5_movedToFront wsX5_movedToFront) := goodIn_app (goodIn_of _ (by decide +kernel)) ggX5_frontCost_X5_movedToFront
theorem dX5_frontCost_0 : decode cX5_frontCost 0 = .ok (.aload_n 0, 1) := by decide +kernel
theorem dX5_frontCost_1 : decode cX5_frontCost 1 = .ok (.invokevirtual 48, 3) := by decide +kernel
theorem dX5_frontCost_4 : decode cX5_frontCost 4 = .ok (.istore_n 1, 1) := by decide +kernel
theorem dX5_frontCost_5 : decode cX5_frontCost 5 = .ok (.iconst 0, 1) := by decide +kernel
theorem dX5_frontCost_6 : decode cX5_frontCost 6 = .ok (.istore_n 2, 1) := by decide +kernel
theorem dX5_frontCost_7 : decode cX5_frontCost 7 = .ok (.iconst 0, 1) := by decide +kernel
theorem dX5_frontCost_8 : decode cX5_frontCost 8 = .ok (.istore_n 3, 1) := by decide +kernel
theorem dX5_frontCost_9 : decode cX5_frontCost 9 = .ok (.iload_n 3, 1) := by decide +kernel
theorem dX5_frontCost_10 : decode cX5_frontCost 10 = .ok (.aload_n 0, 1) := by decide +kernel
theorem dX5_frontCost_11 : decode cX5_frontCost 11 = .ok (.getfield 25, 3) := by decide +kernel
theorem dX5_frontCost_14 : decode cX5_frontCost 14 = .ok (.if_icmp .ge 37, 3) := by decide +kernel
theorem dX5_frontCost_17 : decode cX5_frontCost 17 = .ok (.iload_n 2, 1) := by decide +kernel
theorem dX5_frontCost_18 : decode cX5_frontCost 18 = .ok (.aload_n 0, 1) := by decide +kernel
theorem dX5_frontCost_19 : decode cX5_frontCost 19 = .ok (.iload_n 1, 1) := by decide +kernel
theorem dX5_frontCost_20 : decode cX5_frontCost 20 = .ok (.aload_n 0, 1) := by decide +kernel
theorem dX5_frontCost_21 : decode cX5_frontCost 21 = .ok (.getfield 9, 3) := by decide +kernel
theorem dX5_frontCost_24 : decode cX5_frontCost 24 = .ok (.iload_n 3, 1) := by decide +kernel
theorem dX5_frontCost_25 : decode cX5_frontCost 25 = .ok (.iaload, 1) := by decide +kernel
theorem dX5_frontCost_26 : decode cX5_frontCost 26 = .ok (.invokevirtual 42, 3) := by decide +kernel
theorem dX5_frontCost_29 : decode cX5_frontCost 29 = .ok (.iconst 1, 1) := by decide +kernel
theorem dX5_frontCost_30 : decode cX5_frontCost 30 = .ok (.iadd, 1) := by decide +kernel
theorem dX5_frontCost_31 : decode cX5_frontCost 31 = .ok (.iadd, 1) := by decide +kernel
theorem dX5_frontCost_32 : decode cX5_frontCost 32 = .ok (.istore_n 2, 1) := by decide +kernel
theorem dX5_frontCost_33 : decode cX5_frontCost 33 = .ok (.aload_n 0, 1) := by decide +kernel
end
section
theorem dX5_frontCost_34 : decode cX5_frontCost 34 = .ok (.iload_n 1, 1) := by decide +kernel
theorem dX5_frontCost_35 : decode cX5_frontCost 35 = .ok (.aload_n 0, 1) := by decide +kernel
theorem dX5_frontCost_36 : decode cX5_frontCost 36 = .ok (.getfield 9, 3) := by decide +kernel
theorem dX5_frontCost_39 : decode cX5_frontCost 39 = .ok (.iload_n 3, 1) := by decide +kernel
theorem dX5_frontCost_40 : decode cX5_frontCost 40 = .ok (.iaload, 1) := by decide +kernel
theorem dX5_frontCost_41 : decode cX5_frontCost 41 = .ok (.invokevirtual 52, 3) := by decide +kernel
theorem dX5_frontCost_44 : decode cX5_frontCost 44 = .ok (.istore_n 1, 1) := by decide +kernel
theorem dX5_frontCost_45 : decode cX5_frontCost 45 = .ok (.iinc 3 1, 3) := by decide +kernel
theorem dX5_frontCost_48 : decode cX5_frontCost 48 = .ok (.goto (-39), 3) := by decide +kernel
theorem dX5_frontCost_51 : decode cX5_frontCost 51 = .ok (.iload_n 2, 1) := by decide +kernel
theorem dX5_frontCost_52 : decode cX5_frontCost 52 = .ok (.ireturn, 1) := by decide +kernel
set_option maxRecDepth 20000 in
theorem ggX5_stayCost_X5_placeOf : GoodIn wsX5_stayCost wsX5_placeOf := goodIn_r _ [7, 8, 9, 10, 6, 11, 12, 13, 14, 15, 16, 17] (by decide +kernel) (by decide +kernel)
set_option maxRecDepth 20000 in
theorem gX5_stayCost_X5_placeOf : GoodIn wsX5_stayCost (wsV RX5 42 RX5 yX5_placeOf wsX5_placeOf) := goodIn_app (goodIn_of _ (by decide +kernel)) ggX5_stayCost_X5_placeOf
theorem dX5_stayCost_0 : decode cX5_stayCost 0 = .ok (.iconst 0, 1) := by decide +kernel
theorem dX5_stayCost_1 : decode cX5_stayCost 1 = .ok (.istore_n 2, 1) := by decide +kernel
theorem dX5_stayCost_2 : decode cX5_stayCost 2 = .ok (.iconst 0, 1) := by decide +kernel
theorem dX5_stayCost_3 : decode cX5_stayCost 3 = .ok (.istore_n 3, 1) := by decide +kernel
theorem dX5_stayCost_4 : decode cX5_stayCost 4 = .ok (.iload_n 3, 1) := by decide +kernel
theorem dX5_stayCost_5 : decode cX5_stayCost 5 = .ok (.aload_n 0, 1) := by decide +kernel
theorem dX5_stayCost_6 : decode cX5_stayCost 6 = .ok (.getfield 25, 3) := by decide +kernel
theorem dX5_stayCost_9 : decode cX5_stayCost 9 = .ok (.if_icmp .ge 25, 3) := by decide +kernel
theorem dX5_stayCost_12 : decode cX5_stayCost 12 = .ok (.iload_n 2, 1) := by decide +kernel
theorem dX5_stayCost_13 : decode cX5_stayCost 13 = .ok (.aload_n 0, 1) := by decide +kernel
theorem dX5_stayCost_14 : decode cX5_stayCost 14 = .ok (.iload_n 1, 1) := by decide +kernel
theorem dX5_stayCost_15 : decode cX5_stayCost 15 = .ok (.aload_n 0, 1) := by decide +kernel
theorem dX5_stayCost_16 : decode cX5_stayCost 16 = .ok (.getfield 9, 3) := by decide +kernel
theorem dX5_stayCost_19 : decode cX5_stayCost 19 = .ok (.iload_n 3, 1) := by decide +kernel
theorem dX5_stayCost_20 : decode cX5_stayCost 20 = .ok (.iaload, 1) := by decide +kernel
theorem dX5_stayCost_21 : decode cX5_stayCost 21 = .ok (.invokevirtual 42, 3) := by decide +kernel
theorem dX5_stayCost_24 : decode cX5_stayCost 24 = .ok (.iconst 1, 1) := by decide +kernel
theorem dX5_stayCost_25 : decode cX5_stayCost 25 = .ok (.iadd, 1) := by decide +kernel
theorem dX5_stayCost_26 : decode cX5_stayCost 26 = .ok (.iadd, 1) := by decide +kernel
theorem dX5_stayCost_27 : decode cX5_stayCost 27 = .ok (.istore_n 2, 1) := by decide +kernel
theorem dX5_stayCost_28 : decode cX5_stayCost 28 = .ok (.iinc 3 1, 3) := by decide +kernel
theorem dX5_stayCost_31 : decode cX5_stayCost 31 = .ok (.goto (-27), 3) := by decide +kernel
theorem dX5_stayCost_34 : decode cX5_stayCost 34 = .ok (.iload_n 2, 1) := by decide +kernel
theorem dX5_stayCost_35 : decode cX5_stayCost 35 = .ok (.ireturn, 1) := by decide +kernel
set_option maxRecDepth 20000 in
theorem ggX5_bestStayCost_X5_stayCost : GoodIn wsX5_bestStayCost wsX5_stayCost := goodIn_r _ [12, 13, 14, 15, 16, 17, 11, 18, 19, 20, 21, 22, 23, 24, 25, 26, 27, 28] (by decide +kernel) (by decide +kernel)
set_option maxRecDepth 20000 in
theorem gX5_bestStayCost_X5_stayCost : GoodIn wsX5_bestStayCost (wsV RX5 56 RX5 yX5_stayCost wsX5_stayCost) := goodIn_app (goodIn_of _ (by decide +kernel)) ggX5_bestStayCost_X5_stayCost
theorem dX5_bestStayCost_0 : decode cX5_bestStayCost 0 = .ok (.ldc 55, 2) := by decide +kernel
theorem dX5_bestStayCost_2 : decode cX5_bestStayCost 2 = .ok (.istore_n 1, 1) := by decide +kernel
theorem dX5_bestStayCost_3 : decode cX5_bestStayCost 3 = .ok (.iconst 0, 1) := by decide +kernel
theorem dX5_bestStayCost_4 : decode cX5_bestStayCost 4 = .ok (.istore_n 2, 1) := by decide +kernel
theorem dX5_bestStayCost_5 : decode cX5_bestStayCost 5 = .ok (.iload_n 2, 1) := by decide +kernel
theorem dX5_bestStayCost_6 : decode cX5_bestStayCost 6 = .ok (.aload_n 0, 1) := by decide +kernel
theorem dX5_bestStayCost_7 : decode cX5_bestStayCost 7 = .ok (.getfield 31, 3) := by decide +kernel
theorem dX5_bestStayCost_10 : decode cX5_bestStayCost 10 = .ok (.if_icmp .ge 24, 3) := by decide +kernel
theorem dX5_bestStayCost_13 : decode cX5_bestStayCost 13 = .ok (.iload_n 1, 1) := by decide +kernel
theorem dX5_bestStayCost_14 : decode cX5_bestStayCost 14 = .ok (.aload_n 0, 1) := by decide +kernel
theorem dX5_bestStayCost_15 : decode cX5_bestStayCost 15 = .ok (.aload_n 0, 1) := by decide +kernel
theorem dX5_bestStayCost_16 : decode cX5_bestStayCost 16 = .ok (.getfield 15, 3) := by decide +kernel
theorem dX5_bestStayCost_19 : decode cX5_bestStayCost 19 = .ok (.iload_n 2, 1) := by decide +kernel
theorem dX5_bestStayCost_20 : decode cX5_bestStayCost 20 = .ok (.iaload, 1) := by decide +kernel
theorem dX5_bestStayCost_21 : decode cX5_bestStayCost 21 = .ok (.invokevirtual 56, 3) := by decide +kernel
theorem dX5_bestStayCost_24 : decode cX5_bestStayCost 24 = .ok (.invokestatic 60, 3) := by decide +kernel
theorem dX5_bestStayCost_27 : decode cX5_bestStayCost 27 = .ok (.istore_n 1, 1) := by decide +kernel
theorem dX5_bestStayCost_28 : decode cX5_bestStayCost 28 = .ok (.iinc 2 1, 3) := by decide +kernel
theorem dX5_bestStayCost_31 : decode cX5_bestStayCost 31 = .ok (.goto (-26), 3) := by decide +kernel
theorem dX5_bestStayCost_34 : decode cX5_bestStayCost 34 = .ok (.iload_n 1, 1) := by decide +kernel
theorem dX5_bestStayCost_35 : decode cX5_bestStayCost 35 = .ok (.ireturn, 1) := by decide +kernel
set_option maxRecDepth 20000 in
theorem ggX5_bestCost_X5_firstOrder : GoodIn wsX5_bestCost wsX5_firstOrder := goodIn_r _ [15, 16, 43, 44, 45, 46, 47, 48] (by decide +kernel) (by decide +kernel)
set_option maxRecDepth 20000 in
theorem gX5_bestCost_X5_firstOrder : GoodIn wsX5_bestCost (wsV RX5 48 RX5 yX5_firstOrder wsX5_firstOrder) := goodIn_app (goodIn_of _ (by decide +kernel)) ggX5_bestCost_X5_firstOrder
set_option maxRecDepth 20000 in
theorem ggX5_bestCost_X5_exchangeNeighbours : GoodIn wsX5_bestCost wsX5_exchangeNeighbours := goodIn_r _ [20, 16, 1, 3, 21, 22, 23, 14, 24, 2, 25, 26, 27, 28, 29, 30, 43, 44, 45, 46, 47, 48] (by decide +kernel) (by decide +kernel)
set_option maxRecDepth 20000 in
theorem gX5_bestCost_X5_exchangeNeighbours : GoodIn wsX5_bestCost (wsV RX5 65 RX5 yX5_exchangeNeighbours wsX5_exchangeNeighbours) := goodIn_app (goodIn_of _ (by decide +kernel)) ggX5_bestCost_X5_exchangeNeighbours
set_option maxRecDepth 20000 in
theorem ggX5_bestCost_X5_payPlaces : GoodIn wsX5_bestCost wsX5_payPlaces := goodIn_r _ [34, 1, 2, 3, 35, 36, 37, 14, 38, 16, 28, 29, 30, 43, 44, 45, 46, 47, 48] (by decide +kernel) (by decide +kernel)
set_option maxRecDepth 20000 in
theorem gX5_bestCost_X5_payPlaces : GoodIn wsX5_bestCost (wsV RX5 68 RX5 yX5_payPlaces wsX5_payPlaces) := goodIn_app (goodIn_of _ (by decide +kernel)) ggX5_bestCost_X5_payPlaces
set_option maxRecDepth 20000 in
theorem ggX5_bestCost_X5_moveAhead : GoodIn wsX5_bestCost wsX5_moveAhead := goodIn_r _ [42, 16, 1, 3, 2, 7, 8, 9, 10, 28, 29, 14, 30, 25, 26, 27, 43, 44, 45, 46, 47, 48] (by decide +kernel) (by decide +kernel)
set_option maxRecDepth 20000 in
theorem gX5_bestCost_X5_moveAhead : GoodIn wsX5_bestCost (wsV RX5 72 RX5 yX5_moveAhead wsX5_moveAhead) := goodIn_app (goodIn_of _ (by decide +kernel)) ggX5_bestCost_X5_moveAhead
theorem dX5_bestCost_0 : decode cX5_bestCost 0 = .ok (.iconst 0, 1) := by decide +kernel
theorem dX5_bestCost_1 : decode cX5_bestCost 1 = .ok (.istore_n 1, 1) := by decide +kernel
theorem dX5_bestCost_2 : decode cX5_bestCost 2 = .ok (.iload_n 1, 1) := by decide +kernel
theorem dX5_bestCost_3 : decode cX5_bestCost 3 = .ok (.aload_n 0, 1) := by decide +kernel
theorem dX5_bestCost_4 : decode cX5_bestCost 4 = .ok (.getfield 31, 3) := by decide +kernel
theorem dX5_bestCost_7 : decode cX5_bestCost 7 = .ok (.if_icmp .ge 22, 3) := by decide +kernel
theorem dX5_bestCost_10 : decode cX5_bestCost 10 = .ok (.aload_n 0, 1) := by decide +kernel
theorem dX5_bestCost_11 : decode cX5_bestCost 11 = .ok (.getfield 18, 3) := by decide +kernel
theorem dX5_bestCost_14 : decode cX5_bestCost 14 = .ok (.aload_n 0, 1) := by decide +kernel
theorem dX5_bestCost_15 : decode cX5_bestCost 15 = .ok (.getfield 15, 3) := by decide +kernel
theorem dX5_bestCost_18 : decode cX5_bestCost 18 = .ok (.iload_n 1, 1) := by decide +kernel
theorem dX5_bestCost_19 : decode cX5_bestCost 19 = .ok (.iaload, 1) := by decide +kernel
theorem dX5_bestCost_20 : decode cX5_bestCost 20 = .ok (.ldc 55, 2) := by decide +kernel
theorem dX5_bestCost_22 : decode cX5_bestCost 22 = .ok (.iastore, 1) := by decide +kernel
theorem dX5_bestCost_23 : decode cX5_bestCost 23 = .ok (.iinc 1 1, 3) := by decide +kernel
theorem dX5_bestCost_26 : decode cX5_bestCost 26 = .ok (.goto (-24), 3) := by decide +kernel
theorem dX5_bestCost_29 : decode cX5_bestCost 29 = .ok (.aload_n 0, 1) := by decide +kernel
theorem dX5_bestCost_30 : decode cX5_bestCost 30 = .ok (.getfield 18, 3) := by decide +kernel
theorem dX5_bestCost_33 : decode cX5_bestCost 33 = .ok (.aload_n 0, 1) := by decide +kernel
theorem dX5_bestCost_34 : decode cX5_bestCost 34 = .ok (.invokevirtual 48, 3) := by decide +kernel
theorem dX5_bestCost_37 : decode cX5_bestCost 37 = .ok (.iconst 0, 1) := by decide +kernel
theorem dX5_bestCost_38 : decode cX5_bestCost 38 = .ok (.iastore, 1) := by decide +kernel
theorem dX5_bestCost_39 : decode cX5_bestCost 39 = .ok (.iconst 0, 1) := by decide +kernel
theorem dX5_bestCost_40 : decode cX5_bestCost 40 = .ok (.istore_n 1, 1) := by decide +kernel
theorem dX5_bestCost_41 : decode cX5_bestCost 41 = .ok (.iload_n 1, 1) := by decide +kernel
theorem dX5_bestCost_42 : decode cX5_bestCost 42 = .ok (.aload_n 0, 1) := by decide +kernel
theorem dX5_bestCost_43 : decode cX5_bestCost 43 = .ok (.getfield 25, 3) := by decide +kernel
theorem dX5_bestCost_46 : decode cX5_bestCost 46 = .ok (.if_icmp .ge 33, 3) := by decide +kernel
theorem dX5_bestCost_49 : decode cX5_bestCost 49 = .ok (.aload_n 0, 1) := by decide +kernel
theorem dX5_bestCost_50 : decode cX5_bestCost 50 = .ok (.invokevirtual 65, 3) := by decide +kernel
theorem dX5_bestCost_53 : decode cX5_bestCost 53 = .ok (.aload_n 0, 1) := by decide +kernel
theorem dX5_bestCost_54 : decode cX5_bestCost 54 = .ok (.aload_n 0, 1) := by decide +kernel
theorem dX5_bestCost_55 : decode cX5_bestCost 55 = .ok (.getfield 9, 3) := by decide +kernel
theorem dX5_bestCost_58 : decode cX5_bestCost 58 = .ok (.iload_n 1, 1) := by decide +kernel
theorem dX5_bestCost_59 : decode cX5_bestCost 59 = .ok (.iaload, 1) := by decide +kernel
theorem dX5_bestCost_60 : decode cX5_bestCost 60 = .ok (.invokevirtual 68, 3) := by decide +kernel
theorem dX5_bestCost_63 : decode cX5_bestCost 63 = .ok (.aload_n 0, 1) := by decide +kernel
theorem dX5_bestCost_64 : decode cX5_bestCost 64 = .ok (.aload_n 0, 1) := by decide +kernel
theorem dX5_bestCost_65 : decode cX5_bestCost 65 = .ok (.getfield 9, 3) := by decide +kernel
theorem dX5_bestCost_68 : decode cX5_bestCost 68 = .ok (.iload_n 1, 1) := by decide +kernel
theorem dX5_bestCost_69 : decode cX5_bestCost 69 = .ok (.iaload, 1) := by decide +kernel
theorem dX5_bestCost_70 : decode cX5_bestCost 70 = .ok (.invokevirtual 72, 3) := by decide +kernel
theorem dX5_bestCost_73 : decode cX5_bestCost 73 = .ok (.iinc 1 1, 3) := by decide +kernel
theorem dX5_bestCost_76 : decode cX5_bestCost 76 = .ok (.goto (-35), 3) := by decide +kernel
theorem dX5_bestCost_79 : decode cX5_bestCost 79 = .ok (.ldc 55, 2) := by decide +kernel
theorem dX5_bestCost_81 : decode cX5_bestCost 81 = .ok (.istore_n 1, 1) := by decide +kernel
theorem dX5_bestCost_82 : decode cX5_bestCost 82 = .ok (.iconst 0, 1) := by decide +kernel
theorem dX5_bestCost_83 : decode cX5_bestCost 83 = .ok (.istore_n 2, 1) := by decide +kernel
theorem dX5_bestCost_84 : decode cX5_bestCost 84 = .ok (.iload_n 2, 1) := by decide +kernel
theorem dX5_bestCost_85 : decode cX5_bestCost 85 = .ok (.aload_n 0, 1) := by decide +kernel
theorem dX5_bestCost_86 : decode cX5_bestCost 86 = .ok (.getfield 31, 3) := by decide +kernel
theorem dX5_bestCost_89 : decode cX5_bestCost 89 = .ok (.if_icmp .ge 25, 3) := by decide +kernel
theorem dX5_bestCost_92 : decode cX5_bestCost 92 = .ok (.iload_n 1, 1) := by decide +kernel
theorem dX5_bestCost_93 : decode cX5_bestCost 93 = .ok (.aload_n 0, 1) := by decide +kernel
theorem dX5_bestCost_94 : decode cX5_bestCost 94 = .ok (.getfield 18, 3) := by decide +kernel
theorem dX5_bestCost_97 : decode cX5_bestCost 97 = .ok (.aload_n 0, 1) := by decide +kernel
theorem dX5_bestCost_98 : decode cX5_bestCost 98 = .ok (.getfield 15, 3) := by decide +kernel
theorem dX5_bestCost_101 : decode cX5_bestCost 101 = .ok (.iload_n 2, 1) := by decide +kernel
theorem dX5_bestCost_102 : decode cX5_bestCost 102 = .ok (.iaload, 1) := by decide +kernel
theorem dX5_bestCost_103 : decode cX5_bestCost 103 = .ok (.iaload, 1) := by decide +kernel
theorem dX5_bestCost_104 : decode cX5_bestCost 104 = .ok (.invokestatic 60, 3) := by decide +kernel
theorem dX5_bestCost_107 : decode cX5_bestCost 107 = .ok (.istore_n 1, 1) := by decide +kernel
theorem dX5_bestCost_108 : decode cX5_bestCost 108 = .ok (.iinc 2 1, 3) := by decide +kernel
theorem dX5_bestCost_111 : decode cX5_bestCost 111 = .ok (.goto (-27), 3) := by decide +kernel
theorem dX5_bestCost_114 : decode cX5_bestCost 114 = .ok (.iload_n 1, 1) := by decide +kernel
theorem dX5_bestCost_115 : decode cX5_bestCost 115 = .ok (.ireturn, 1) := by decide +kernel
set_option maxRecDepth 20000 in
theorem ggX5_exchangeNeighbours_X5_exchangeIn : GoodIn wsX5_exchangeNeighbours wsX5_exchangeIn := goodIn_r _ [8, 1, 9, 10, 11, 7, 12, 13, 14, 15, 16, 17, 18, 19, 20, 21] (by decide +kernel) (by decide +kernel)
set_option maxRecDepth 20000 in
theorem gX5_exchangeNeighbours_X5_exchangeIn : GoodIn wsX5_exchangeNeighbours (wsV RX5 75 RX5 yX5_exchangeIn wsX5_exchangeIn) := goodIn_app (goodIn_of _ (by decide +kernel)) ggX5_exchangeNeighbours_X5_exchangeIn
theorem dX5_exchangeNeighbours_0 : decode cX5_exchangeNeighbours 0 = .ok (.iconst 1, 1) := by decide +kernel
theorem dX5_exchangeNeighbours_1 : decode cX5_exchangeNeighbours 1 = .ok (.istore_n 1, 1) := by decide +kernel
theorem dX5_exchangeNeighbours_2 : decode cX5_exchangeNeighbours 2 = .ok (.iconst 0, 1) := by decide +kernel
theorem dX5_exchangeNeighbours_3 : decode cX5_exchangeNeighbours 3 = .ok (.istore_n 2, 1) := by decide +kernel
theorem dX5_exchangeNeighbours_4 : decode cX5_exchangeNeighbours 4 = .ok (.iload_n 1, 1) := by decide +kernel
theorem dX5_exchangeNeighbours_5 : decode cX5_exchangeNeighbours 5 = .ok (.ifCond .eq 59, 3) := by decide +kernel
theorem dX5_exchangeNeighbours_8 : decode cX5_exchangeNeighbours 8 = .ok (.iload_n 2, 1) := by decide +kernel
theorem dX5_exchangeNeighbours_9 : decode cX5_exchangeNeighbours 9 = .ok (.aload_n 0, 1) := by decide +kernel
theorem dX5_exchangeNeighbours_10 : decode cX5_exchangeNeighbours 10 = .ok (.getfield 21, 3) := by decide +kernel
theorem dX5_exchangeNeighbours_13 : decode cX5_exchangeNeighbours 13 = .ok (.aload_n 0, 1) := by decide +kernel
theorem dX5_exchangeNeighbours_14 : decode cX5_exchangeNeighbours 14 = .ok (.getfield 21, 3) := by decide +kernel
theorem dX5_exchangeNeighbours_17 : decode cX5_exchangeNeighbours 17 = .ok (.iconst 1, 1) := by decide +kernel
theorem dX5_exchangeNeighbours_18 : decode cX5_exchangeNeighbours 18 = .ok (.isub, 1) := by decide +kernel
theorem dX5_exchangeNeighbours_19 : decode cX5_exchangeNeighbours 19 = .ok (.imul, 1) := by decide +kernel
theorem dX5_exchangeNeighbours_20 : decode cX5_exchangeNeighbours 20 = .ok (.iconst 2, 1) := by decide +kernel
theorem dX5_exchangeNeighbours_21 : decode cX5_exchangeNeighbours 21 = .ok (.idiv, 1) := by decide +kernel
theorem dX5_exchangeNeighbours_22 : decode cX5_exchangeNeighbours 22 = .ok (.if_icmp .ge 42, 3) := by decide +kernel
theorem dX5_exchangeNeighbours_25 : decode cX5_exchangeNeighbours 25 = .ok (.iconst 0, 1) := by decide +kernel
theorem dX5_exchangeNeighbours_26 : decode cX5_exchangeNeighbours 26 = .ok (.istore_n 1, 1) := by decide +kernel
theorem dX5_exchangeNeighbours_27 : decode cX5_exchangeNeighbours 27 = .ok (.iconst 0, 1) := by decide +kernel
theorem dX5_exchangeNeighbours_28 : decode cX5_exchangeNeighbours 28 = .ok (.istore_n 3, 1) := by decide +kernel
theorem dX5_exchangeNeighbours_29 : decode cX5_exchangeNeighbours 29 = .ok (.iload_n 3, 1) := by decide +kernel
theorem dX5_exchangeNeighbours_30 : decode cX5_exchangeNeighbours 30 = .ok (.aload_n 0, 1) := by decide +kernel
theorem dX5_exchangeNeighbours_31 : decode cX5_exchangeNeighbours 31 = .ok (.getfield 31, 3) := by decide +kernel
theorem dX5_exchangeNeighbours_34 : decode cX5_exchangeNeighbours 34 = .ok (.if_icmp .ge 24, 3) := by decide +kernel
theorem dX5_exchangeNeighbours_37 : decode cX5_exchangeNeighbours 37 = .ok (.aload_n 0, 1) := by decide +kernel
theorem dX5_exchangeNeighbours_38 : decode cX5_exchangeNeighbours 38 = .ok (.aload_n 0, 1) := by decide +kernel
theorem dX5_exchangeNeighbours_39 : decode cX5_exchangeNeighbours 39 = .ok (.getfield 15, 3) := by decide +kernel
theorem dX5_exchangeNeighbours_42 : decode cX5_exchangeNeighbours 42 = .ok (.iload_n 3, 1) := by decide +kernel
theorem dX5_exchangeNeighbours_43 : decode cX5_exchangeNeighbours 43 = .ok (.iaload, 1) := by decide +kernel
theorem dX5_exchangeNeighbours_44 : decode cX5_exchangeNeighbours 44 = .ok (.invokevirtual 75, 3) := by decide +kernel
theorem dX5_exchangeNeighbours_47 : decode cX5_exchangeNeighbours 47 = .ok (.ifCond .eq 5, 3) := by decide +kernel
theorem dX5_exchangeNeighbours_50 : decode cX5_exchangeNeighbours 50 = .ok (.iconst 1, 1) := by decide +kernel
theorem dX5_exchangeNeighbours_51 : decode cX5_exchangeNeighbours 51 = .ok (.istore_n 1, 1) := by decide +kernel
theorem dX5_exchangeNeighbours_52 : decode cX5_exchangeNeighbours 52 = .ok (.iinc 3 1, 3) := by decide +kernel
theorem dX5_exchangeNeighbours_55 : decode cX5_exchangeNeighbours 55 = .ok (.goto (-26), 3) := by decide +kernel
theorem dX5_exchangeNeighbours_58 : decode cX5_exchangeNeighbours 58 = .ok (.iinc 2 1, 3) := by decide +kernel
theorem dX5_exchangeNeighbours_61 : decode cX5_exchangeNeighbours 61 = .ok (.goto (-57), 3) := by decide +kernel
theorem dX5_exchangeNeighbours_64 : decode cX5_exchangeNeighbours 64 = .ok (.return_, 1) := by decide +kernel
set_option maxRecDepth 20000 in
theorem ggX5_exchangeIn_X5_exchanged : GoodIn wsX5_exchangeIn wsX5_exchanged := goodIn_r _ [6, 7, 8, 5, 9] (by decide +kernel) (by decide +kernel)
set_option maxRecDepth 20000 in
theorem gX5_exchangeIn_X5_exchanged : GoodIn wsX5_exchangeIn (va_wsS RX5 45 yX5_exchanged wsX5_exchanged) := goodIn_app (goodIn_of _ (by decide +kernel)) ggX5_exchangeIn_X5_exchanged
theorem dX5_exchangeIn_0 : decode cX5_exchangeIn 0 = .ok (.iconst 0, 1) := by decide +kernel
theorem dX5_exchangeIn_1 : decode cX5_exchangeIn 1 = .ok (.istore_n 2, 1) := by decide +kernel
theorem dX5_exchangeIn_2 : decode cX5_exchangeIn 2 = .ok (.iconst 0, 1) := by decide +kernel
theorem dX5_exchangeIn_3 : decode cX5_exchangeIn 3 = .ok (.istore_n 3, 1) := by decide +kernel
theorem dX5_exchangeIn_4 : decode cX5_exchangeIn 4 = .ok (.iload_n 3, 1) := by decide +kernel
theorem dX5_exchangeIn_5 : decode cX5_exchangeIn 5 = .ok (.iconst 1, 1) := by decide +kernel
theorem dX5_exchangeIn_6 : decode cX5_exchangeIn 6 = .ok (.iadd, 1) := by decide +kernel
theorem dX5_exchangeIn_7 : decode cX5_exchangeIn 7 = .ok (.aload_n 0, 1) := by decide +kernel
theorem dX5_exchangeIn_8 : decode cX5_exchangeIn 8 = .ok (.getfield 21, 3) := by decide +kernel
theorem dX5_exchangeIn_11 : decode cX5_exchangeIn 11 = .ok (.if_icmp .ge 51, 3) := by decide +kernel
theorem dX5_exchangeIn_14 : decode cX5_exchangeIn 14 = .ok (.iload_n 1, 1) := by decide +kernel
theorem dX5_exchangeIn_15 : decode cX5_exchangeIn 15 = .ok (.iload_n 3, 1) := by decide +kernel
theorem dX5_exchangeIn_16 : decode cX5_exchangeIn 16 = .ok (.invokestatic 45, 3) := by decide +kernel
theorem dX5_exchangeIn_19 : decode cX5_exchangeIn 19 = .ok (.istore 4, 2) := by decide +kernel
theorem dX5_exchangeIn_21 : decode cX5_exchangeIn 21 = .ok (.aload_n 0, 1) := by decide +kernel
theorem dX5_exchangeIn_22 : decode cX5_exchangeIn 22 = .ok (.getfield 18, 3) := by decide +kernel
theorem dX5_exchangeIn_25 : decode cX5_exchangeIn 25 = .ok (.iload_n 1, 1) := by decide +kernel
theorem dX5_exchangeIn_26 : decode cX5_exchangeIn 26 = .ok (.iaload, 1) := by decide +kernel
theorem dX5_exchangeIn_27 : decode cX5_exchangeIn 27 = .ok (.iconst 1, 1) := by decide +kernel
theorem dX5_exchangeIn_28 : decode cX5_exchangeIn 28 = .ok (.iadd, 1) := by decide +kernel
theorem dX5_exchangeIn_29 : decode cX5_exchangeIn 29 = .ok (.aload_n 0, 1) := by decide +kernel
theorem dX5_exchangeIn_30 : decode cX5_exchangeIn 30 = .ok (.getfield 18, 3) := by decide +kernel
theorem dX5_exchangeIn_33 : decode cX5_exchangeIn 33 = .ok (.iload 4, 2) := by decide +kernel
theorem dX5_exchangeIn_35 : decode cX5_exchangeIn 35 = .ok (.iaload, 1) := by decide +kernel
theorem dX5_exchangeIn_36 : decode cX5_exchangeIn 36 = .ok (.if_icmp .ge 20, 3) := by decide +kernel
theorem dX5_exchangeIn_39 : decode cX5_exchangeIn 39 = .ok (.aload_n 0, 1) := by decide +kernel
theorem dX5_exchangeIn_40 : decode cX5_exchangeIn 40 = .ok (.getfield 18, 3) := by decide +kernel
theorem dX5_exchangeIn_43 : decode cX5_exchangeIn 43 = .ok (.iload 4, 2) := by decide +kernel
theorem dX5_exchangeIn_45 : decode cX5_exchangeIn 45 = .ok (.aload_n 0, 1) := by decide +kernel
theorem dX5_exchangeIn_46 : decode cX5_exchangeIn 46 = .ok (.getfield 18, 3) := by decide +kernel
theorem dX5_exchangeIn_49 : decode cX5_exchangeIn 49 = .ok (.iload_n 1, 1) := by decide +kernel
theorem dX5_exchangeIn_50 : decode cX5_exchangeIn 50 = .ok (.iaload, 1) := by decide +kernel
theorem dX5_exchangeIn_51 : decode cX5_exchangeIn 51 = .ok (.iconst 1, 1) := by decide +kernel
theorem dX5_exchangeIn_52 : decode cX5_exchangeIn 52 = .ok (.iadd, 1) := by decide +kernel
theorem dX5_exchangeIn_53 : decode cX5_exchangeIn 53 = .ok (.iastore, 1) := by decide +kernel
theorem dX5_exchangeIn_54 : decode cX5_exchangeIn 54 = .ok (.iconst 1, 1) := by decide +kernel
theorem dX5_exchangeIn_55 : decode cX5_exchangeIn 55 = .ok (.istore_n 2, 1) := by decide +kernel
theorem dX5_exchangeIn_56 : decode cX5_exchangeIn 56 = .ok (.iinc 3 1, 3) := by decide +kernel
theorem dX5_exchangeIn_59 : decode cX5_exchangeIn 59 = .ok (.goto (-55), 3) := by decide +kernel
theorem dX5_exchangeIn_62 : decode cX5_exchangeIn 62 = .ok (.iload_n 2, 1) := by decide +kernel
theorem dX5_exchangeIn_63 : decode cX5_exchangeIn 63 = .ok (.ireturn, 1) := by decide +kernel
set_option maxRecDepth 20000 in
theorem ggX5_payPlaces_X5_placeOf : GoodIn wsX5_payPlaces wsX5_placeOf := goodIn_r _ [8, 9, 10, 11, 7, 12, 13, 14, 15, 16, 17, 18] (by decide +kernel) (by decide +kernel)
set_option maxRecDepth 20000 in
theorem gX5_payPlaces_X5_placeOf : GoodIn wsX5_payPlaces (wsV RX5 42 RX5 yX5_placeOf wsX5_placeOf) := goodIn_app (goodIn_of _ (by decide +kernel)) ggX5_payPlaces_X5_placeOf
theorem dX5_payPlaces_0 : decode cX5_payPlaces 0 = .ok (.iconst 0, 1) := by decide +kernel
theorem dX5_payPlaces_1 : decode cX5_payPlaces 1 = .ok (.istore_n 2, 1) := by decide +kernel
theorem dX5_payPlaces_2 : decode cX5_payPlaces 2 = .ok (.iload_n 2, 1) := by decide +kernel
theorem dX5_payPlaces_3 : decode cX5_payPlaces 3 = .ok (.aload_n 0, 1) := by decide +kernel
theorem dX5_payPlaces_4 : decode cX5_payPlaces 4 = .ok (.getfield 31, 3) := by decide +kernel
theorem dX5_payPlaces_7 : decode cX5_payPlaces 7 = .ok (.if_icmp .ge 36, 3) := by decide +kernel
theorem dX5_payPlaces_10 : decode cX5_payPlaces 10 = .ok (.aload_n 0, 1) := by decide +kernel
theorem dX5_payPlaces_11 : decode cX5_payPlaces 11 = .ok (.getfield 18, 3) := by decide +kernel
theorem dX5_payPlaces_14 : decode cX5_payPlaces 14 = .ok (.aload_n 0, 1) := by decide +kernel
theorem dX5_payPlaces_15 : decode cX5_payPlaces 15 = .ok (.getfield 15, 3) := by decide +kernel
theorem dX5_payPlaces_18 : decode cX5_payPlaces 18 = .ok (.iload_n 2, 1) := by decide +kernel
theorem dX5_payPlaces_19 : decode cX5_payPlaces 19 = .ok (.iaload, 1) := by decide +kernel
theorem dX5_payPlaces_20 : decode cX5_payPlaces 20 = .ok (.dup2, 1) := by decide +kernel
theorem dX5_payPlaces_21 : decode cX5_payPlaces 21 = .ok (.iaload, 1) := by decide +kernel
theorem dX5_payPlaces_22 : decode cX5_payPlaces 22 = .ok (.aload_n 0, 1) := by decide +kernel
theorem dX5_payPlaces_23 : decode cX5_payPlaces 23 = .ok (.aload_n 0, 1) := by decide +kernel
theorem dX5_payPlaces_24 : decode cX5_payPlaces 24 = .ok (.getfield 15, 3) := by decide +kernel
theorem dX5_payPlaces_27 : decode cX5_payPlaces 27 = .ok (.iload_n 2, 1) := by decide +kernel
theorem dX5_payPlaces_28 : decode cX5_payPlaces 28 = .ok (.iaload, 1) := by decide +kernel
theorem dX5_payPlaces_29 : decode cX5_payPlaces 29 = .ok (.iload_n 1, 1) := by decide +kernel
theorem dX5_payPlaces_30 : decode cX5_payPlaces 30 = .ok (.invokevirtual 42, 3) := by decide +kernel
theorem dX5_payPlaces_33 : decode cX5_payPlaces 33 = .ok (.iconst 1, 1) := by decide +kernel
theorem dX5_payPlaces_34 : decode cX5_payPlaces 34 = .ok (.iadd, 1) := by decide +kernel
theorem dX5_payPlaces_35 : decode cX5_payPlaces 35 = .ok (.iadd, 1) := by decide +kernel
theorem dX5_payPlaces_36 : decode cX5_payPlaces 36 = .ok (.iastore, 1) := by decide +kernel
theorem dX5_payPlaces_37 : decode cX5_payPlaces 37 = .ok (.iinc 2 1, 3) := by decide +kernel
theorem dX5_payPlaces_40 : decode cX5_payPlaces 40 = .ok (.goto (-38), 3) := by decide +kernel
theorem dX5_payPlaces_43 : decode cX5_payPlaces 43 = .ok (.return_, 1) := by decide +kernel
set_option maxRecDepth 20000 in
theorem ggX5_moveAhead_X5_thingAt : GoodIn wsX5_moveAhead wsX5_thingAt := goodIn_r _ [12] (by decide +kernel) (by decide +kernel)
set_option maxRecDepth 20000 in
theorem gX5_moveAhead_X5_thingAt : GoodIn wsX5_moveAhead (va_wsS RX5 38 yX5_thingAt wsX5_thingAt) := goodIn_app (goodIn_of _ (by decide +kernel)) ggX5_moveAhead_X5_thingAt
set_option maxRecDepth 20000 in
theorem ggX5_moveAhead_X5_exchanged : GoodIn wsX5_moveAhead wsX5_exchanged := goodIn_r _ [15, 9, 10, 11, 12] (by decide +kernel) (by decide +kernel)
set_option maxRecDepth 20000 in
theorem gX5_moveAhead_X5_exchanged : GoodIn wsX5_moveAhead (va_wsS RX5 45 yX5_exchanged wsX5_exchanged) := goodIn_app (goodIn_of _ (by decide +kernel)) ggX5_moveAhead_X5_exchanged
theorem dX5_moveAhead_0 : decode cX5_moveAhead 0 = .ok (.aload_n 0, 1) := by decide +kernel
theorem dX5_moveAhead_1 : decode cX5_moveAhead 1 = .ok (.getfield 21, 3) := by decide +kernel
theorem dX5_moveAhead_4 : decode cX5_moveAhead 4 = .ok (.iconst 1, 1) := by decide +kernel
theorem dX5_moveAhead_5 : decode cX5_moveAhead 5 = .ok (.isub, 1) := by decide +kernel
theorem dX5_moveAhead_6 : decode cX5_moveAhead 6 = .ok (.istore_n 2, 1) := by decide +kernel
theorem dX5_moveAhead_7 : decode cX5_moveAhead 7 = .ok (.iload_n 2, 1) := by decide +kernel
theorem dX5_moveAhead_8 : decode cX5_moveAhead 8 = .ok (.ifCond .le 81, 3) := by decide +kernel
theorem dX5_moveAhead_11 : decode cX5_moveAhead 11 = .ok (.iconst 0, 1) := by decide +kernel
theorem dX5_moveAhead_12 : decode cX5_moveAhead 12 = .ok (.istore_n 3, 1) := by decide +kernel
theorem dX5_moveAhead_13 : decode cX5_moveAhead 13 = .ok (.iload_n 3, 1) := by decide +kernel
theorem dX5_moveAhead_14 : decode cX5_moveAhead 14 = .ok (.aload_n 0, 1) := by decide +kernel
theorem dX5_moveAhead_15 : decode cX5_moveAhead 15 = .ok (.getfield 31, 3) := by decide +kernel
theorem dX5_moveAhead_18 : decode cX5_moveAhead 18 = .ok (.if_icmp .ge 65, 3) := by decide +kernel
theorem dX5_moveAhead_21 : decode cX5_moveAhead 21 = .ok (.aload_n 0, 1) := by decide +kernel
theorem dX5_moveAhead_22 : decode cX5_moveAhead 22 = .ok (.getfield 15, 3) := by decide +kernel
theorem dX5_moveAhead_25 : decode cX5_moveAhead 25 = .ok (.iload_n 3, 1) := by decide +kernel
theorem dX5_moveAhead_26 : decode cX5_moveAhead 26 = .ok (.iaload, 1) := by decide +kernel
theorem dX5_moveAhead_27 : decode cX5_moveAhead 27 = .ok (.iload_n 2, 1) := by decide +kernel
theorem dX5_moveAhead_28 : decode cX5_moveAhead 28 = .ok (.invokestatic 38, 3) := by decide +kernel
theorem dX5_moveAhead_31 : decode cX5_moveAhead 31 = .ok (.iload_n 1, 1) := by decide +kernel
theorem dX5_moveAhead_32 : decode cX5_moveAhead 32 = .ok (.if_icmp .ne 45, 3) := by decide +kernel
theorem dX5_moveAhead_35 : decode cX5_moveAhead 35 = .ok (.aload_n 0, 1) := by decide +kernel
theorem dX5_moveAhead_36 : decode cX5_moveAhead 36 = .ok (.getfield 15, 3) := by decide +kernel
theorem dX5_moveAhead_39 : decode cX5_moveAhead 39 = .ok (.iload_n 3, 1) := by decide +kernel
theorem dX5_moveAhead_40 : decode cX5_moveAhead 40 = .ok (.iaload, 1) := by decide +kernel
theorem dX5_moveAhead_41 : decode cX5_moveAhead 41 = .ok (.iload_n 2, 1) := by decide +kernel
theorem dX5_moveAhead_42 : decode cX5_moveAhead 42 = .ok (.iconst 1, 1) := by decide +kernel
theorem dX5_moveAhead_43 : decode cX5_moveAhead 43 = .ok (.isub, 1) := by decide +kernel
theorem dX5_moveAhead_44 : decode cX5_moveAhead 44 = .ok (.invokestatic 45, 3) := by decide +kernel
theorem dX5_moveAhead_47 : decode cX5_moveAhead 47 = .ok (.istore 4, 2) := by decide +kernel
theorem dX5_moveAhead_49 : decode cX5_moveAhead 49 = .ok (.aload_n 0, 1) := by decide +kernel
theorem dX5_moveAhead_50 : decode cX5_moveAhead 50 = .ok (.getfield 18, 3) := by decide +kernel
theorem dX5_moveAhead_53 : decode cX5_moveAhead 53 = .ok (.iload 4, 2) := by decide +kernel
theorem dX5_moveAhead_55 : decode cX5_moveAhead 55 = .ok (.aload_n 0, 1) := by decide +kernel
theorem dX5_moveAhead_56 : decode cX5_moveAhead 56 = .ok (.getfield 18, 3) := by decide +kernel
theorem dX5_moveAhead_59 : decode cX5_moveAhead 59 = .ok (.iload 4, 2) := by decide +kernel
theorem dX5_moveAhead_61 : decode cX5_moveAhead 61 = .ok (.iaload, 1) := by decide +kernel
theorem dX5_moveAhead_62 : decode cX5_moveAhead 62 = .ok (.aload_n 0, 1) := by decide +kernel
theorem dX5_moveAhead_63 : decode cX5_moveAhead 63 = .ok (.getfield 18, 3) := by decide +kernel
theorem dX5_moveAhead_66 : decode cX5_moveAhead 66 = .ok (.aload_n 0, 1) := by decide +kernel
theorem dX5_moveAhead_67 : decode cX5_moveAhead 67 = .ok (.getfield 15, 3) := by decide +kernel
theorem dX5_moveAhead_70 : decode cX5_moveAhead 70 = .ok (.iload_n 3, 1) := by decide +kernel
theorem dX5_moveAhead_71 : decode cX5_moveAhead 71 = .ok (.iaload, 1) := by decide +kernel
theorem dX5_moveAhead_72 : decode cX5_moveAhead 72 = .ok (.iaload, 1) := by decide +kernel
theorem dX5_moveAhead_73 : decode cX5_moveAhead 73 = .ok (.invokestatic 60, 3) := by decide +kernel
theorem dX5_moveAhead_76 : decode cX5_moveAhead 76 = .ok (.iastore, 1) := by decide +kernel
theorem dX5_moveAhead_77 : decode cX5_moveAhead 77 = .ok (.iinc 3 1, 3) := by decide +kernel
theorem dX5_moveAhead_80 : decode cX5_moveAhead 80 = .ok (.goto (-67), 3) := by decide +kernel
theorem dX5_moveAhead_83 : decode cX5_moveAhead 83 = .ok (.iinc 2 (-1), 3) := by decide +kernel
theorem dX5_moveAhead_86 : decode cX5_moveAhead 86 = .ok (.goto (-79), 3) := by decide +kernel
theorem dX5_moveAhead_89 : decode cX5_moveAhead 89 = .ok (.return_, 1) := by decide +kernel
set_option maxRecDepth 20000 in
theorem ggX6_init_X3_init : GoodIn wsX6_init wsX3_init := goodIn_r _ [19, 20, 2, 3, 21, 22, 23, 24, 25, 26, 27, 28, 29, 30, 31, 32, 33, 61, 62, 63, 76, 77, 78, 79, 80, 81, 82, 83, 84] (by decide +kernel) (by decide +kernel)
set_option maxRecDepth 20000 in
theorem gX6_init_X3_init : GoodIn wsX6_init (wsX3_init) := ggX6_init_X3_init
set_option maxRecDepth 20000 in
theorem ggX6_init_X2_init : GoodIn wsX6_init wsX2_init := goodIn_r _ [36, 37, 2, 3, 26, 38, 39, 68, 69] (by decide +kernel) (by decide +kernel)
set_option maxRecDepth 20000 in
theorem gX6_init_X2_init : GoodIn wsX6_init (wsX2_init) := ggX6_init_X2_init
set_option maxRecDepth 20000 in
theorem ggX6_init_X5_init : GoodIn wsX6_init wsX5_init := goodIn_r _ [42, 43, 2, 3, 26, 44, 45, 46, 47, 48, 49, 50, 51, 14, 52, 53, 54, 55, 56, 57, 58, 59, 60, 70, 71, 72, 73, 74, 75] (by decide +kernel) (by decide +kernel)
set_option maxRecDepth 20000 in
theorem gX6_init_X5_init : GoodIn wsX6_init (wsX5_init) := ggX6_init_X5_init
theorem dX6_init_0 : decode cX6_init 0 = .ok (.aload_n 0, 1) := by decide +kernel
theorem dX6_init_1 : decode cX6_init 1 = .ok (.invokespecial 1, 3) := by decide +kernel
theorem dX6_init_4 : decode cX6_init 4 = .ok (.aload_n 0, 1) := by decide +kernel
theorem dX6_init_5 : decode cX6_init 5 = .ok (.new 7, 3) := by decide +kernel
theorem dX6_init_8 : decode cX6_init 8 = .ok (.dup, 1) := by decide +kernel
theorem dX6_init_9 : decode cX6_init 9 = .ok (.invokespecial 9, 3) := by decide +kernel
theorem dX6_init_12 : decode cX6_init 12 = .ok (.putfield 10, 3) := by decide +kernel
theorem dX6_init_15 : decode cX6_init 15 = .ok (.aload_n 0, 1) := by decide +kernel
theorem dX6_init_16 : decode cX6_init 16 = .ok (.new 16, 3) := by decide +kernel
theorem dX6_init_19 : decode cX6_init 19 = .ok (.dup, 1) := by decide +kernel
theorem dX6_init_20 : decode cX6_init 20 = .ok (.invokespecial 18, 3) := by decide +kernel
theorem dX6_init_23 : decode cX6_init 23 = .ok (.putfield 19, 3) := by decide +kernel
theorem dX6_init_26 : decode cX6_init 26 = .ok (.aload_n 0, 1) := by decide +kernel
theorem dX6_init_27 : decode cX6_init 27 = .ok (.new 23, 3) := by decide +kernel
theorem dX6_init_30 : decode cX6_init 30 = .ok (.dup, 1) := by decide +kernel
theorem dX6_init_31 : decode cX6_init 31 = .ok (.invokespecial 25, 3) := by decide +kernel
theorem dX6_init_34 : decode cX6_init 34 = .ok (.putfield 26, 3) := by decide +kernel
theorem dX6_init_37 : decode cX6_init 37 = .ok (.aload_n 0, 1) := by decide +kernel
theorem dX6_init_38 : decode cX6_init 38 = .ok (.lconst 0, 1) := by decide +kernel
theorem dX6_init_39 : decode cX6_init 39 = .ok (.putfield 30, 3) := by decide +kernel
theorem dX6_init_42 : decode cX6_init 42 = .ok (.return_, 1) := by decide +kernel
set_option maxRecDepth 20000 in
theorem ggX6_offer_X6_isWithin : GoodIn wsX6_offer wsX6_isWithin := goodIn_r _ [14] (by decide +kernel) (by decide +kernel)
set_option maxRecDepth 20000 in
theorem gX6_offer_X6_isWithin : GoodIn wsX6_offer (va_wsS RX6 34 yX6_isWithin wsX6_isWithin) := goodIn_app (goodIn_of _ (by decide +kernel)) ggX6_offer_X6_isWithin
set_option maxRecDepth 20000 in
theorem ggX6_offer_X1_init : GoodIn wsX6_offer wsX1_init := goodIn_r _ [17, 18, 19, 20, 21, 22, 76, 77, 78, 79, 71, 72, 73, 74, 75] (by decide +kernel) (by decide +kernel)
set_option maxRecDepth 20000 in
theorem gX6_offer_X1_init : GoodIn wsX6_offer (wsX1_init) := ggX6_offer_X1_init
set_option maxRecDepth 20000 in
theorem ggX6_offer_X4_init : GoodIn wsX6_offer wsX4_init := goodIn_r _ [25, 26, 27, 16, 4, 17, 18, 19, 20, 21, 22, 76, 77, 78, 79, 73, 74, 75, 71, 72] (by decide +kernel) (by decide +kernel)
set_option maxRecDepth 20000 in
theorem gX6_offer_X4_init : GoodIn wsX6_offer (wsX4_init) := ggX6_offer_X4_init
set_option maxRecDepth 20000 in
theorem ggX6_offer_X0_init : GoodIn wsX6_offer wsX0_init := goodIn_r _ [30, 31, 32, 24, 7, 25, 26, 27, 16, 4, 17, 18, 19, 20, 21, 22, 76, 77, 78, 79, 73, 74, 75, 71, 72] (by decide +kernel) (by decide +kernel)
set_option maxRecDepth 20000 in
theorem gX6_offer_X0_init : GoodIn wsX6_offer (wsX0_init) := ggX6_offer_X0_init
set_option maxRecDepth 20000 in
theorem ggX6_offer_X3_take : GoodIn wsX6_offer wsX3_take := goodIn_r _ [37, 38, 39, 40, 41, 42, 43, 44, 10, 45, 31, 46, 47, 48, 49, 50, 51, 52, 53, 7, 54, 26, 55, 56, 57, 4, 58, 21, 59, 60, 61, 80, 81, 82, 76, 77, 78, 79, 73, 74, 75, 71, 72] (by decide +kernel) (by decide +kernel)
set_option maxRecDepth 20000 in
theorem gX6_offer_X3_take : GoodIn wsX6_offer (wsV RX6 53 RX3 yX3_take wsX3_take) := goodIn_app (goodIn_of _ (by decide +kernel)) ggX6_offer_X3_take
set_option maxRecDepth 20000 in
theorem ggX6_offer_X3_knownBy : GoodIn wsX6_offer wsX3_knownBy := goodIn_r _ [65, 38, 39, 66, 47, 48, 49, 80, 81, 82, 76, 77, 78, 79, 71, 72, 73, 74, 75] (by decide +kernel) (by decide +kernel)
set_option maxRecDepth 20000 in
theorem gX6_offer_X3_knownBy : GoodIn wsX6_offer (wsV RX6 61 RX3 yX3_knownBy wsX3_knownBy) := goodIn_app (goodIn_of _ (by decide +kernel)) ggX6_offer_X3_knownBy
theorem dX6_offer_0 : decode cX6_offer 0 = .ok (.iload_n 1, 1) := by decide +kernel
theorem dX6_offer_1 : decode cX6_offer 1 = .ok (.iconst 0, 1) := by decide +kernel
theorem dX6_offer_2 : decode cX6_offer 2 = .ok (.iconst 2, 1) := by decide +kernel
theorem dX6_offer_3 : decode cX6_offer 3 = .ok (.invokestatic 34, 3) := by decide +kernel
theorem dX6_offer_6 : decode cX6_offer 6 = .ok (.ifCond .eq 25, 3) := by decide +kernel
theorem dX6_offer_9 : decode cX6_offer 9 = .ok (.iload_n 2, 1) := by decide +kernel
theorem dX6_offer_10 : decode cX6_offer 10 = .ok (.iconst 1, 1) := by decide +kernel
theorem dX6_offer_11 : decode cX6_offer 11 = .ok (.bipush 50, 2) := by decide +kernel
theorem dX6_offer_13 : decode cX6_offer 13 = .ok (.invokestatic 34, 3) := by decide +kernel
theorem dX6_offer_16 : decode cX6_offer 16 = .ok (.ifCond .eq 15, 3) := by decide +kernel
theorem dX6_offer_19 : decode cX6_offer 19 = .ok (.iload 5, 2) := by decide +kernel
theorem dX6_offer_21 : decode cX6_offer 21 = .ok (.iconst 1, 1) := by decide +kernel
theorem dX6_offer_22 : decode cX6_offer 22 = .ok (.sipush 500, 3) := by decide +kernel
theorem dX6_offer_25 : decode cX6_offer 25 = .ok (.invokestatic 34, 3) := by decide +kernel
theorem dX6_offer_28 : decode cX6_offer 28 = .ok (.ifCond .ne 5, 3) := by decide +kernel
theorem dX6_offer_31 : decode cX6_offer 31 = .ok (.iconst (-1), 1) := by decide +kernel
theorem dX6_offer_32 : decode cX6_offer 32 = .ok (.ireturn, 1) := by decide +kernel
theorem dX6_offer_33 : decode cX6_offer 33 = .ok (.iload_n 1, 1) := by decide +kernel
theorem dX6_offer_34 : decode cX6_offer 34 = .ok (.ifCond .eq 15, 3) := by decide +kernel
theorem dX6_offer_37 : decode cX6_offer 37 = .ok (.iload_n 3, 1) := by decide +kernel
theorem dX6_offer_38 : decode cX6_offer 38 = .ok (.iconst 0, 1) := by decide +kernel
theorem dX6_offer_39 : decode cX6_offer 39 = .ok (.bipush 20, 2) := by decide +kernel
theorem dX6_offer_41 : decode cX6_offer 41 = .ok (.invokestatic 34, 3) := by decide +kernel
theorem dX6_offer_44 : decode cX6_offer 44 = .ok (.ifCond .ne 5, 3) := by decide +kernel
theorem dX6_offer_47 : decode cX6_offer 47 = .ok (.iconst (-1), 1) := by decide +kernel
theorem dX6_offer_48 : decode cX6_offer 48 = .ok (.ireturn, 1) := by decide +kernel
theorem dX6_offer_49 : decode cX6_offer 49 = .ok (.iload_n 1, 1) := by decide +kernel
theorem dX6_offer_50 : decode cX6_offer 50 = .ok (.iconst 2, 1) := by decide +kernel
theorem dX6_offer_51 : decode cX6_offer 51 = .ok (.if_icmp .ne 17, 3) := by decide +kernel
theorem dX6_offer_54 : decode cX6_offer 54 = .ok (.iload 4, 2) := by decide +kernel
theorem dX6_offer_56 : decode cX6_offer 56 = .ok (.iconst 1, 1) := by decide +kernel
theorem dX6_offer_57 : decode cX6_offer 57 = .ok (.sipush 200, 3) := by decide +kernel
theorem dX6_offer_60 : decode cX6_offer 60 = .ok (.invokestatic 34, 3) := by decide +kernel
theorem dX6_offer_63 : decode cX6_offer 63 = .ok (.ifCond .ne 5, 3) := by decide +kernel
theorem dX6_offer_66 : decode cX6_offer 66 = .ok (.iconst (-1), 1) := by decide +kernel
theorem dX6_offer_67 : decode cX6_offer 67 = .ok (.ireturn, 1) := by decide +kernel
theorem dX6_offer_68 : decode cX6_offer 68 = .ok (.aload_n 0, 1) := by decide +kernel
theorem dX6_offer_69 : decode cX6_offer 69 = .ok (.getfield 10, 3) := by decide +kernel
theorem dX6_offer_72 : decode cX6_offer 72 = .ok (.iload_n 1, 1) := by decide +kernel
theorem dX6_offer_73 : decode cX6_offer 73 = .ok (.ifCond .ne 16, 3) := by decide +kernel
theorem dX6_offer_76 : decode cX6_offer 76 = .ok (.new 38, 3) := by decide +kernel
theorem dX6_offer_79 : decode cX6_offer 79 = .ok (.dup, 1) := by decide +kernel
theorem dX6_offer_80 : decode cX6_offer 80 = .ok (.iload_n 2, 1) := by decide +kernel
theorem dX6_offer_81 : decode cX6_offer 81 = .ok (.iload 5, 2) := by decide +kernel
theorem dX6_offer_83 : decode cX6_offer 83 = .ok (.invokespecial 40, 3) := by decide +kernel
theorem dX6_offer_86 : decode cX6_offer 86 = .ok (.goto 35, 3) := by decide +kernel
theorem dX6_offer_89 : decode cX6_offer 89 = .ok (.iload_n 1, 1) := by decide +kernel
theorem dX6_offer_90 : decode cX6_offer 90 = .ok (.iconst 1, 1) := by decide +kernel
theorem dX6_offer_91 : decode cX6_offer 91 = .ok (.if_icmp .ne 17, 3) := by decide +kernel
theorem dX6_offer_94 : decode cX6_offer 94 = .ok (.new 43, 3) := by decide +kernel
theorem dX6_offer_97 : decode cX6_offer 97 = .ok (.dup, 1) := by decide +kernel
theorem dX6_offer_98 : decode cX6_offer 98 = .ok (.iload_n 2, 1) := by decide +kernel
theorem dX6_offer_99 : decode cX6_offer 99 = .ok (.iload_n 3, 1) := by decide +kernel
theorem dX6_offer_100 : decode cX6_offer 100 = .ok (.iload 5, 2) := by decide +kernel
theorem dX6_offer_102 : decode cX6_offer 102 = .ok (.invokespecial 45, 3) := by decide +kernel
theorem dX6_offer_105 : decode cX6_offer 105 = .ok (.goto 16, 3) := by decide +kernel
theorem dX6_offer_108 : decode cX6_offer 108 = .ok (.new 48, 3) := by decide +kernel
theorem dX6_offer_111 : decode cX6_offer 111 = .ok (.dup, 1) := by decide +kernel
theorem dX6_offer_112 : decode cX6_offer 112 = .ok (.iload_n 2, 1) := by decide +kernel
theorem dX6_offer_113 : decode cX6_offer 113 = .ok (.iload_n 3, 1) := by decide +kernel
theorem dX6_offer_114 : decode cX6_offer 114 = .ok (.iload 4, 2) := by decide +kernel
theorem dX6_offer_116 : decode cX6_offer 116 = .ok (.iload 5, 2) := by decide +kernel
theorem dX6_offer_118 : decode cX6_offer 118 = .ok (.invokespecial 50, 3) := by decide +kernel
theorem dX6_offer_121 : decode cX6_offer 121 = .ok (.invokevirtual 53, 3) := by decide +kernel
theorem dX6_offer_124 : decode cX6_offer 124 = .ok (.aload_n 0, 1) := by decide +kernel
theorem dX6_offer_125 : decode cX6_offer 125 = .ok (.getfield 10, 3) := by decide +kernel
theorem dX6_offer_128 : decode cX6_offer 128 = .ok (.aload_n 0, 1) := by decide +kernel
theorem dX6_offer_129 : decode cX6_offer 129 = .ok (.getfield 10, 3) := by decide +kernel
theorem dX6_offer_132 : decode cX6_offer 132 = .ok (.getfield 57, 3) := by decide +kernel
theorem dX6_offer_135 : decode cX6_offer 135 = .ok (.invokevirtual 61, 3) := by decide +kernel
theorem dX6_offer_138 : decode cX6_offer 138 = .ok (.ireturn, 1) := by decide +kernel
set_option maxRecDepth 20000 in
theorem ggX6_ends_X6_isWithin : GoodIn wsX6_ends wsX6_isWithin := goodIn_r _ [6] (by decide +kernel) (by decide +kernel)
set_option maxRecDepth 20000 in
theorem gX6_ends_X6_isWithin : GoodIn wsX6_ends (va_wsS RX6 34 yX6_isWithin wsX6_isWithin) := goodIn_app (goodIn_of _ (by decide +kernel)) ggX6_ends_X6_isWithin
set_option maxRecDepth 20000 in
theorem ggX6_ends_X2_clearAll : GoodIn wsX6_ends wsX2_clearAll := goodIn_r _ [11, 12, 13, 21, 22] (by decide +kernel) (by decide +kernel)
set_option maxRecDepth 20000 in
theorem gX6_ends_X2_clearAll : GoodIn wsX6_ends (wsV RX6 65 RX2 yX2_clearAll wsX2_clearAll) := goodIn_app (goodIn_of _ (by decide +kernel)) ggX6_ends_X2_clearAll
theorem dX6_ends_0 : decode cX6_ends 0 = .ok (.iload_n 1, 1) := by decide +kernel
theorem dX6_ends_1 : decode cX6_ends 1 = .ok (.iconst 1, 1) := by decide +kernel
theorem dX6_ends_2 : decode cX6_ends 2 = .ok (.bipush 40, 2) := by decide +kernel
theorem dX6_ends_4 : decode cX6_ends 4 = .ok (.invokestatic 34, 3) := by decide +kernel
theorem dX6_ends_7 : decode cX6_ends 7 = .ok (.ifCond .ne 5, 3) := by decide +kernel
theorem dX6_ends_10 : decode cX6_ends 10 = .ok (.iconst (-1), 1) := by decide +kernel
theorem dX6_ends_11 : decode cX6_ends 11 = .ok (.ireturn, 1) := by decide +kernel
theorem dX6_ends_12 : decode cX6_ends 12 = .ok (.aload_n 0, 1) := by decide +kernel
theorem dX6_ends_13 : decode cX6_ends 13 = .ok (.getfield 10, 3) := by decide +kernel
theorem dX6_ends_16 : decode cX6_ends 16 = .ok (.getfield 57, 3) := by decide +kernel
theorem dX6_ends_19 : decode cX6_ends 19 = .ok (.istore_n 2, 1) := by decide +kernel
theorem dX6_ends_20 : decode cX6_ends 20 = .ok (.aload_n 0, 1) := by decide +kernel
theorem dX6_ends_21 : decode cX6_ends 21 = .ok (.getfield 10, 3) := by decide +kernel
theorem dX6_ends_24 : decode cX6_ends 24 = .ok (.iload_n 1, 1) := by decide +kernel
theorem dX6_ends_25 : decode cX6_ends 25 = .ok (.putfield 57, 3) := by decide +kernel
theorem dX6_ends_28 : decode cX6_ends 28 = .ok (.aload_n 0, 1) := by decide +kernel
theorem dX6_ends_29 : decode cX6_ends 29 = .ok (.getfield 19, 3) := by decide +kernel
theorem dX6_ends_32 : decode cX6_ends 32 = .ok (.invokevirtual 65, 3) := by decide +kernel
theorem dX6_ends_35 : decode cX6_ends 35 = .ok (.iload_n 2, 1) := by decide +kernel
theorem dX6_ends_36 : decode cX6_ends 36 = .ok (.ireturn, 1) := by decide +kernel
set_option maxRecDepth 20000 in
theorem ggX6_rent_X6_isWithin : GoodIn wsX6_rent wsX6_isWithin := goodIn_r _ [6] (by decide +kernel) (by decide +kernel)
set_option maxRecDepth 20000 in
theorem gX6_rent_X6_isWithin : GoodIn wsX6_rent (va_wsS RX6 34 yX6_isWithin wsX6_isWithin) := goodIn_app (goodIn_of _ (by decide +kernel)) ggX6_rent_X6_isWithin
set_option maxRecDepth 20000 in
theorem ggX6_rent_X0_bodiesAsked : GoodIn wsX6_rent wsX0_bodiesAsked := goodIn_r _ [13, 14, 15, 16, 17, 18, 19, 20, 8, 21, 22, 23, 24] (by decide +kernel) (by decide +kernel)
set_option maxRecDepth 20000 in
theorem gX6_rent_X0_bodiesAsked_u72X0 : GoodIn wsX6_rent (va_wsO RX6 72 RX0 "RentOrBuy$Flat" ⟨"RentOrBuy$Flat", "bodiesAsked", "()I"⟩ yX0_bodiesAsked wsX0_bodiesAsked) := goodIn_app (goodIn_of _ (by decide +kernel)) ggX6_rent_X0_bodiesAsked
set_option maxRecDepth 20000 in
theorem ggX6_rent_X1_bodiesAsked : GoodIn wsX6_rent wsX1_bodiesAsked := goodIn_r _ [24] (by decide +kernel) (by decide +kernel)
set_option maxRecDepth 20000 in
theorem gX6_rent_X1_bodiesAsked : GoodIn wsX6_rent (wsV RX6 72 RX1 yX1_bodiesAsked wsX1_bodiesAsked) := goodIn_app (goodIn_of _ (by decide +kernel)) ggX6_rent_X1_bodiesAsked
set_option maxRecDepth 20000 in
theorem ggX6_rent_X4_bodiesAsked : GoodIn wsX6_rent wsX4_bodiesAsked := goodIn_r _ [19, 20, 8, 21, 22, 23, 24] (by decide +kernel) (by decide +kernel)
set_option maxRecDepth 20000 in
theorem gX6_rent_X4_bodiesAsked_u72X4 : GoodIn wsX6_rent (va_wsO RX6 72 RX4 "RentOrBuy$Flat" ⟨"RentOrBuy$Flat", "bodiesAsked", "()I"⟩ yX4_bodiesAsked wsX4_bodiesAsked) := goodIn_app (goodIn_of _ (by decide +kernel)) ggX6_rent_X4_bodiesAsked
set_option maxRecDepth 20000 in
theorem ggX6_rent_X0_rentOf : GoodIn wsX6_rent wsX0_rentOf := goodIn_r _ [33, 34, 35, 36, 37, 38, 39, 40, 16, 41, 18, 42, 43, 44, 29, 21, 45, 23, 46, 47, 58, 59, 60, 61, 62, 63, 64, 65, 66] (by decide +kernel) (by decide +kernel)
set_option maxRecDepth 20000 in
theorem gX6_rent_X0_rentOf_u76X0 : GoodIn wsX6_rent (va_wsO RX6 76 RX0 "RentOrBuy$Flat" ⟨"RentOrBuy$Flat", "rentOf", "(I)I"⟩ yX0_rentOf wsX0_rentOf) := goodIn_app (goodIn_of _ (by decide +kernel)) ggX6_rent_X0_rentOf
set_option maxRecDepth 20000 in
theorem ggX6_rent_X1_rentOf : GoodIn wsX6_rent wsX1_rentOf := goodIn_r _ [46, 47, 58, 59, 60, 61, 65, 66, 62, 63, 64] (by decide +kernel) (by decide +kernel)
set_option maxRecDepth 20000 in
theorem gX6_rent_X1_rentOf : GoodIn wsX6_rent (wsV RX6 76 RX1 yX1_rentOf wsX1_rentOf) := goodIn_app (goodIn_of _ (by decide +kernel)) ggX6_rent_X1_rentOf
set_option maxRecDepth 20000 in
theorem ggX6_rent_X4_rentOf : GoodIn wsX6_rent wsX4_rentOf := goodIn_r _ [42, 43, 44, 29, 21, 45, 23, 46, 47, 58, 59, 60, 61, 62, 63, 64, 65, 66] (by decide +kernel) (by decide +kernel)
set_option maxRecDepth 20000 in
theorem gX6_rent_X4_rentOf_u76X4 : GoodIn wsX6_rent (va_wsO RX6 76 RX4 "RentOrBuy$Flat" ⟨"RentOrBuy$Flat", "rentOf", "(I)I"⟩ yX4_rentOf wsX4_rentOf) := goodIn_app (goodIn_of _ (by decide +kernel)) ggX6_rent_X4_rentOf
theorem dX6_rent_0 : decode cX6_rent 0 = .ok (.iload_n 1, 1) := by decide +kernel
theorem dX6_rent_1 : decode cX6_rent 1 = .ok (.iconst 1, 1) := by decide +kernel
theorem dX6_rent_2 : decode cX6_rent 2 = .ok (.bipush 40, 2) := by decide +kernel
theorem dX6_rent_4 : decode cX6_rent 4 = .ok (.invokestatic 34, 3) := by decide +kernel
theorem dX6_rent_7 : decode cX6_rent 7 = .ok (.ifCond .ne 5, 3) := by decide +kernel
theorem dX6_rent_10 : decode cX6_rent 10 = .ok (.iconst (-1), 1) := by decide +kernel
theorem dX6_rent_11 : decode cX6_rent 11 = .ok (.ireturn, 1) := by decide +kernel
theorem dX6_rent_12 : decode cX6_rent 12 = .ok (.aload_n 0, 1) := by decide +kernel
theorem dX6_rent_13 : decode cX6_rent 13 = .ok (.dup, 1) := by decide +kernel
theorem dX6_rent_14 : decode cX6_rent 14 = .ok (.getfield 30, 3) := by decide +kernel
theorem dX6_rent_17 : decode cX6_rent 17 = .ok (.aload_n 0, 1) := by decide +kernel
theorem dX6_rent_18 : decode cX6_rent 18 = .ok (.getfield 10, 3) := by decide +kernel
theorem dX6_rent_21 : decode cX6_rent 21 = .ok (.getfield 68, 3) := by decide +kernel
theorem dX6_rent_24 : decode cX6_rent 24 = .ok (.invokevirtual 72, 3) := by decide +kernel
theorem dX6_rent_27 : decode cX6_rent 27 = .ok (.i2l, 1) := by decide +kernel
theorem dX6_rent_28 : decode cX6_rent 28 = .ok (.ladd, 1) := by decide +kernel
theorem dX6_rent_29 : decode cX6_rent 29 = .ok (.putfield 30, 3) := by decide +kernel
theorem dX6_rent_32 : decode cX6_rent 32 = .ok (.aload_n 0, 1) := by decide +kernel
theorem dX6_rent_33 : decode cX6_rent 33 = .ok (.getfield 10, 3) := by decide +kernel
theorem dX6_rent_36 : decode cX6_rent 36 = .ok (.getfield 68, 3) := by decide +kernel
theorem dX6_rent_39 : decode cX6_rent 39 = .ok (.iload_n 1, 1) := by decide +kernel
theorem dX6_rent_40 : decode cX6_rent 40 = .ok (.invokevirtual 76, 3) := by decide +kernel
theorem dX6_rent_43 : decode cX6_rent 43 = .ok (.ireturn, 1) := by decide +kernel
set_option maxRecDepth 20000 in
theorem ggX6_cost_X3_isPlan : GoodIn wsX6_cost wsX3_isPlan := goodIn_r _ [6, 7, 8, 9, 10, 25, 26, 27] (by decide +kernel) (by decide +kernel)
set_option maxRecDepth 20000 in
theorem gX6_cost_X3_isPlan : GoodIn wsX6_cost (wsV RX6 79 RX3 yX3_isPlan wsX3_isPlan) := goodIn_app (goodIn_of _ (by decide +kernel)) ggX6_cost_X3_isPlan
set_option maxRecDepth 20000 in
theorem ggX6_cost_X3_isEnd : GoodIn wsX6_cost wsX3_isEnd := goodIn_r _ [14, 7, 8, 9, 10, 25, 26, 27] (by decide +kernel) (by decide +kernel)
set_option maxRecDepth 20000 in
theorem gX6_cost_X3_isEnd : GoodIn wsX6_cost (wsV RX6 83 RX3 yX3_isEnd wsX3_isEnd) := goodIn_app (goodIn_of _ (by decide +kernel)) ggX6_cost_X3_isEnd
set_option maxRecDepth 20000 in
theorem ggX6_cost_X3_costOf : GoodIn wsX6_cost wsX3_costOf := goodIn_r _ [18, 19, 20, 25, 26, 27, 28, 29, 30, 31, 32, 33, 34, 35, 36] (by decide +kernel) (by decide +kernel)
set_option maxRecDepth 20000 in
theorem gX6_cost_X3_costOf : GoodIn wsX6_cost (wsV RX6 86 RX3 yX3_costOf wsX3_costOf) := goodIn_app (goodIn_of _ (by decide +kernel)) ggX6_cost_X3_costOf
theorem dX6_cost_0 : decode cX6_cost 0 = .ok (.aload_n 0, 1) := by decide +kernel
theorem dX6_cost_1 : decode cX6_cost 1 = .ok (.getfield 10, 3) := by decide +kernel
theorem dX6_cost_4 : decode cX6_cost 4 = .ok (.iload_n 1, 1) := by decide +kernel
theorem dX6_cost_5 : decode cX6_cost 5 = .ok (.invokevirtual 79, 3) := by decide +kernel
theorem dX6_cost_8 : decode cX6_cost 8 = .ok (.ifCond .eq 14, 3) := by decide +kernel
theorem dX6_cost_11 : decode cX6_cost 11 = .ok (.aload_n 0, 1) := by decide +kernel
theorem dX6_cost_12 : decode cX6_cost 12 = .ok (.getfield 10, 3) := by decide +kernel
theorem dX6_cost_15 : decode cX6_cost 15 = .ok (.iload_n 2, 1) := by decide +kernel
theorem dX6_cost_16 : decode cX6_cost 16 = .ok (.invokevirtual 83, 3) := by decide +kernel
theorem dX6_cost_19 : decode cX6_cost 19 = .ok (.ifCond .ne 5, 3) := by decide +kernel
theorem dX6_cost_22 : decode cX6_cost 22 = .ok (.iconst (-1), 1) := by decide +kernel
theorem dX6_cost_23 : decode cX6_cost 23 = .ok (.ireturn, 1) := by decide +kernel
theorem dX6_cost_24 : decode cX6_cost 24 = .ok (.aload_n 0, 1) := by decide +kernel
theorem dX6_cost_25 : decode cX6_cost 25 = .ok (.getfield 10, 3) := by decide +kernel
theorem dX6_cost_28 : decode cX6_cost 28 = .ok (.iload_n 1, 1) := by decide +kernel
theorem dX6_cost_29 : decode cX6_cost 29 = .ok (.iload_n 2, 1) := by decide +kernel
theorem dX6_cost_30 : decode cX6_cost 30 = .ok (.invokevirtual 86, 3) := by decide +kernel
theorem dX6_cost_33 : decode cX6_cost 33 = .ok (.ireturn, 1) := by decide +kernel
set_option maxRecDepth 20000 in
theorem ggX6_known_X3_isEnd : GoodIn wsX6_known wsX3_isEnd := goodIn_r _ [6, 7, 8, 9, 10, 25, 26, 27] (by decide +kernel) (by decide +kernel)
set_option maxRecDepth 20000 in
theorem gX6_known_X3_isEnd : GoodIn wsX6_known (wsV RX6 83 RX3 yX3_isEnd wsX3_isEnd) := goodIn_app (goodIn_of _ (by decide +kernel)) ggX6_known_X3_isEnd
set_option maxRecDepth 20000 in
theorem ggX6_known_X3_knownBy : GoodIn wsX6_known wsX3_knownBy := goodIn_r _ [14, 15, 16, 17, 18, 19, 20, 25, 26, 27, 28, 29, 30, 31, 32, 33, 34, 35, 36] (by decide +kernel) (by decide +kernel)
set_option maxRecDepth 20000 in
theorem gX6_known_X3_knownBy : GoodIn wsX6_known (wsV RX6 61 RX3 yX3_knownBy wsX3_knownBy) := goodIn_app (goodIn_of _ (by decide +kernel)) ggX6_known_X3_knownBy
theorem dX6_known_0 : decode cX6_known 0 = .ok (.aload_n 0, 1) := by decide +kernel
theorem dX6_known_1 : decode cX6_known 1 = .ok (.getfield 10, 3) := by decide +kernel
theorem dX6_known_4 : decode cX6_known 4 = .ok (.iload_n 1, 1) := by decide +kernel
theorem dX6_known_5 : decode cX6_known 5 = .ok (.invokevirtual 83, 3) := by decide +kernel
theorem dX6_known_8 : decode cX6_known 8 = .ok (.ifCond .ne 5, 3) := by decide +kernel
theorem dX6_known_11 : decode cX6_known 11 = .ok (.iconst (-1), 1) := by decide +kernel
theorem dX6_known_12 : decode cX6_known 12 = .ok (.ireturn, 1) := by decide +kernel
theorem dX6_known_13 : decode cX6_known 13 = .ok (.aload_n 0, 1) := by decide +kernel
theorem dX6_known_14 : decode cX6_known 14 = .ok (.getfield 10, 3) := by decide +kernel
theorem dX6_known_17 : decode cX6_known 17 = .ok (.iload_n 1, 1) := by decide +kernel
theorem dX6_known_18 : decode cX6_known 18 = .ok (.invokevirtual 61, 3) := by decide +kernel
theorem dX6_known_21 : decode cX6_known 21 = .ok (.ireturn, 1) := by decide +kernel
set_option maxRecDepth 20000 in
theorem ggX6_ratio_X3_isPlan : GoodIn wsX6_ratio wsX3_isPlan := goodIn_r _ [6, 7, 8, 9, 10, 54, 55, 56] (by decide +kernel) (by decide +kernel)
set_option maxRecDepth 20000 in
theorem gX6_ratio_X3_isPlan : GoodIn wsX6_ratio (wsV RX6 79 RX3 yX3_isPlan wsX3_isPlan) := goodIn_app (goodIn_of _ (by decide +kernel)) ggX6_ratio_X3_isPlan
set_option maxRecDepth 20000 in
theorem ggX6_ratio_X3_isEnd : GoodIn wsX6_ratio wsX3_isEnd := goodIn_r _ [14, 7, 8, 9, 10, 54, 55, 56] (by decide +kernel) (by decide +kernel)
set_option maxRecDepth 20000 in
theorem gX6_ratio_X3_isEnd : GoodIn wsX6_ratio (wsV RX6 83 RX3 yX3_isEnd wsX3_isEnd) := goodIn_app (goodIn_of _ (by decide +kernel)) ggX6_ratio_X3_isEnd
set_option maxRecDepth 20000 in
theorem ggX6_ratio_X6_isWithin : GoodIn wsX6_ratio wsX6_isWithin := goodIn_r _ [10] (by decide +kernel) (by decide +kernel)
set_option maxRecDepth 20000 in
theorem gX6_ratio_X6_isWithin : GoodIn wsX6_ratio (va_wsS RX6 34 yX6_isWithin wsX6_isWithin) := goodIn_app (goodIn_of _ (by decide +kernel)) ggX6_ratio_X6_isWithin
set_option maxRecDepth 20000 in
theorem ggX6_ratio_X3_worstEnd : GoodIn wsX6_ratio wsX3_worstEnd := goodIn_r _ [19, 7, 20, 21, 22, 5, 23, 24, 25, 26, 27, 28, 29, 30, 31, 32, 33, 34, 35, 36, 37, 54, 55, 56, 57, 58, 59, 60, 61, 62, 63, 64, 65] (by decide +kernel) (by decide +kernel)
set_option maxRecDepth 20000 in
theorem gX6_ratio_X3_worstEnd : GoodIn wsX6_ratio (wsV RX6 90 RX3 yX3_worstEnd wsX3_worstEnd) := goodIn_app (goodIn_of _ (by decide +kernel)) ggX6_ratio_X3_worstEnd
set_option maxRecDepth 20000 in
theorem ggX6_ratio_X3_ratioPart : GoodIn wsX6_ratio wsX3_ratioPart := goodIn_r _ [41, 24, 25, 26, 5, 27, 28, 29, 30, 31, 32, 33, 34, 35, 36, 37, 42, 9, 43, 44, 45, 46, 47, 48, 49, 54, 55, 56, 57, 58, 59, 60, 61, 62, 63, 64, 65] (by decide +kernel) (by decide +kernel)
set_option maxRecDepth 20000 in
theorem gX6_ratio_X3_ratioPart : GoodIn wsX6_ratio (wsV RX6 93 RX3 yX3_ratioPart wsX3_ratioPart) := goodIn_app (goodIn_of _ (by decide +kernel)) ggX6_ratio_X3_ratioPart
theorem dX6_ratio_0 : decode cX6_ratio 0 = .ok (.aload_n 0, 1) := by decide +kernel
theorem dX6_ratio_1 : decode cX6_ratio 1 = .ok (.getfield 10, 3) := by decide +kernel
theorem dX6_ratio_4 : decode cX6_ratio 4 = .ok (.iload_n 1, 1) := by decide +kernel
theorem dX6_ratio_5 : decode cX6_ratio 5 = .ok (.invokevirtual 79, 3) := by decide +kernel
theorem dX6_ratio_8 : decode cX6_ratio 8 = .ok (.ifCond .eq 27, 3) := by decide +kernel
theorem dX6_ratio_11 : decode cX6_ratio 11 = .ok (.iload_n 2, 1) := by decide +kernel
theorem dX6_ratio_12 : decode cX6_ratio 12 = .ok (.ifCond .eq 14, 3) := by decide +kernel
theorem dX6_ratio_15 : decode cX6_ratio 15 = .ok (.aload_n 0, 1) := by decide +kernel
theorem dX6_ratio_16 : decode cX6_ratio 16 = .ok (.getfield 10, 3) := by decide +kernel
theorem dX6_ratio_19 : decode cX6_ratio 19 = .ok (.iload_n 2, 1) := by decide +kernel
theorem dX6_ratio_20 : decode cX6_ratio 20 = .ok (.invokevirtual 83, 3) := by decide +kernel
theorem dX6_ratio_23 : decode cX6_ratio 23 = .ok (.ifCond .eq 12, 3) := by decide +kernel
theorem dX6_ratio_26 : decode cX6_ratio 26 = .ok (.iload_n 3, 1) := by decide +kernel
theorem dX6_ratio_27 : decode cX6_ratio 27 = .ok (.iconst 0, 1) := by decide +kernel
theorem dX6_ratio_28 : decode cX6_ratio 28 = .ok (.iconst 1, 1) := by decide +kernel
theorem dX6_ratio_29 : decode cX6_ratio 29 = .ok (.invokestatic 34, 3) := by decide +kernel
theorem dX6_ratio_32 : decode cX6_ratio 32 = .ok (.ifCond .ne 5, 3) := by decide +kernel
theorem dX6_ratio_35 : decode cX6_ratio 35 = .ok (.iconst (-1), 1) := by decide +kernel
theorem dX6_ratio_36 : decode cX6_ratio 36 = .ok (.ireturn, 1) := by decide +kernel
theorem dX6_ratio_37 : decode cX6_ratio 37 = .ok (.aload_n 0, 1) := by decide +kernel
theorem dX6_ratio_38 : decode cX6_ratio 38 = .ok (.getfield 10, 3) := by decide +kernel
theorem dX6_ratio_41 : decode cX6_ratio 41 = .ok (.iload_n 1, 1) := by decide +kernel
theorem dX6_ratio_42 : decode cX6_ratio 42 = .ok (.iload_n 2, 1) := by decide +kernel
theorem dX6_ratio_43 : decode cX6_ratio 43 = .ok (.ifCond .ne 14, 3) := by decide +kernel
theorem dX6_ratio_46 : decode cX6_ratio 46 = .ok (.aload_n 0, 1) := by decide +kernel
theorem dX6_ratio_47 : decode cX6_ratio 47 = .ok (.getfield 10, 3) := by decide +kernel
theorem dX6_ratio_50 : decode cX6_ratio 50 = .ok (.iload_n 1, 1) := by decide +kernel
theorem dX6_ratio_51 : decode cX6_ratio 51 = .ok (.invokevirtual 90, 3) := by decide +kernel
theorem dX6_ratio_54 : decode cX6_ratio 54 = .ok (.goto 4, 3) := by decide +kernel
theorem dX6_ratio_57 : decode cX6_ratio 57 = .ok (.iload_n 2, 1) := by decide +kernel
theorem dX6_ratio_58 : decode cX6_ratio 58 = .ok (.iload_n 3, 1) := by decide +kernel
theorem dX6_ratio_59 : decode cX6_ratio 59 = .ok (.invokevirtual 93, 3) := by decide +kernel
theorem dX6_ratio_62 : decode cX6_ratio 62 = .ok (.ireturn, 1) := by decide +kernel
set_option maxRecDepth 20000 in
theorem ggX6_sure_X3_surePlan : GoodIn wsX6_sure wsX3_surePlan := goodIn_r _ [6, 7, 8, 9, 10, 5, 11, 12, 13, 14, 15, 16, 17, 18, 19, 20, 21, 22, 23, 24, 25, 26, 27, 28, 29, 34, 35, 36, 37, 38, 39, 40, 41, 42, 43, 44, 45] (by decide +kernel) (by decide +kernel)
set_option maxRecDepth 20000 in
theorem gX6_sure_X3_surePlan : GoodIn wsX6_sure (wsV RX6 97 RX3 yX3_surePlan wsX3_surePlan) := goodIn_app (goodIn_of _ (by decide +kernel)) ggX6_sure_X3_surePlan
theorem dX6_sure_0 : decode cX6_sure 0 = .ok (.aload_n 0, 1) := by decide +kernel
theorem dX6_sure_1 : decode cX6_sure 1 = .ok (.getfield 10, 3) := by decide +kernel
theorem dX6_sure_4 : decode cX6_sure 4 = .ok (.invokevirtual 97, 3) := by decide +kernel
theorem dX6_sure_7 : decode cX6_sure 7 = .ok (.ireturn, 1) := by decide +kernel
set_option maxRecDepth 20000 in
theorem ggX6_share_X6_isWithin : GoodIn wsX6_share wsX6_isWithin := goodIn_r _ [6] (by decide +kernel) (by decide +kernel)
set_option maxRecDepth 20000 in
theorem gX6_share_X6_isWithin : GoodIn wsX6_share (va_wsS RX6 34 yX6_isWithin wsX6_isWithin) := goodIn_app (goodIn_of _ (by decide +kernel)) ggX6_share_X6_isWithin
set_option maxRecDepth 20000 in
theorem ggX6_share_X3_isPlan : GoodIn wsX6_share wsX3_isPlan := goodIn_r _ [11, 12, 4, 5, 6, 27, 28, 29] (by decide +kernel) (by decide +kernel)
set_option maxRecDepth 20000 in
theorem gX6_share_X3_isPlan : GoodIn wsX6_share (wsV RX6 79 RX3 yX3_isPlan wsX3_isPlan) := goodIn_app (goodIn_of _ (by decide +kernel)) ggX6_share_X3_isPlan
set_option maxRecDepth 20000 in
theorem ggX6_share_X3_isEnd : GoodIn wsX6_share wsX3_isEnd := goodIn_r _ [16, 12, 4, 5, 6, 27, 28, 29] (by decide +kernel) (by decide +kernel)
set_option maxRecDepth 20000 in
theorem gX6_share_X3_isEnd : GoodIn wsX6_share (wsV RX6 83 RX3 yX3_isEnd wsX3_isEnd) := goodIn_app (goodIn_of _ (by decide +kernel)) ggX6_share_X3_isEnd
set_option maxRecDepth 20000 in
theorem ggX6_share_X2_replace : GoodIn wsX6_share wsX2_replace := goodIn_r _ [20] (by decide +kernel) (by decide +kernel)
set_option maxRecDepth 20000 in
theorem gX6_share_X2_replace : GoodIn wsX6_share (va_wsS RX6 107 yX2_replace wsX2_replace) := goodIn_app (goodIn_of _ (by decide +kernel)) ggX6_share_X2_replace
theorem dX6_share_0 : decode cX6_share 0 = .ok (.iload_n 1, 1) := by decide +kernel
theorem dX6_share_1 : decode cX6_share 1 = .ok (.iconst 0, 1) := by decide +kernel
theorem dX6_share_2 : decode cX6_share 2 = .ok (.iconst 1, 1) := by decide +kernel
theorem dX6_share_3 : decode cX6_share 3 = .ok (.invokestatic 34, 3) := by decide +kernel
theorem dX6_share_6 : decode cX6_share 6 = .ok (.ifCond .eq 13, 3) := by decide +kernel
theorem dX6_share_9 : decode cX6_share 9 = .ok (.iload_n 3, 1) := by decide +kernel
theorem dX6_share_10 : decode cX6_share 10 = .ok (.iconst 0, 1) := by decide +kernel
theorem dX6_share_11 : decode cX6_share 11 = .ok (.bipush 9, 2) := by decide +kernel
theorem dX6_share_13 : decode cX6_share 13 = .ok (.invokestatic 34, 3) := by decide +kernel
theorem dX6_share_16 : decode cX6_share 16 = .ok (.ifCond .ne 5, 3) := by decide +kernel
theorem dX6_share_19 : decode cX6_share 19 = .ok (.iconst (-1), 1) := by decide +kernel
theorem dX6_share_20 : decode cX6_share 20 = .ok (.ireturn, 1) := by decide +kernel
theorem dX6_share_21 : decode cX6_share 21 = .ok (.iload_n 1, 1) := by decide +kernel
theorem dX6_share_22 : decode cX6_share 22 = .ok (.ifCond .ne 17, 3) := by decide +kernel
theorem dX6_share_25 : decode cX6_share 25 = .ok (.aload_n 0, 1) := by decide +kernel
theorem dX6_share_26 : decode cX6_share 26 = .ok (.getfield 10, 3) := by decide +kernel
theorem dX6_share_29 : decode cX6_share 29 = .ok (.iload_n 2, 1) := by decide +kernel
theorem dX6_share_30 : decode cX6_share 30 = .ok (.invokevirtual 79, 3) := by decide +kernel
theorem dX6_share_33 : decode cX6_share 33 = .ok (.ifCond .ne 19, 3) := by decide +kernel
theorem dX6_share_36 : decode cX6_share 36 = .ok (.goto 14, 3) := by decide +kernel
theorem dX6_share_39 : decode cX6_share 39 = .ok (.aload_n 0, 1) := by decide +kernel
theorem dX6_share_40 : decode cX6_share 40 = .ok (.getfield 10, 3) := by decide +kernel
theorem dX6_share_43 : decode cX6_share 43 = .ok (.iload_n 2, 1) := by decide +kernel
theorem dX6_share_44 : decode cX6_share 44 = .ok (.invokevirtual 83, 3) := by decide +kernel
theorem dX6_share_47 : decode cX6_share 47 = .ok (.ifCond .ne 5, 3) := by decide +kernel
theorem dX6_share_50 : decode cX6_share 50 = .ok (.iconst (-1), 1) := by decide +kernel
theorem dX6_share_51 : decode cX6_share 51 = .ok (.ireturn, 1) := by decide +kernel
theorem dX6_share_52 : decode cX6_share 52 = .ok (.iload_n 1, 1) := by decide +kernel
theorem dX6_share_53 : decode cX6_share 53 = .ok (.ifCond .ne 13, 3) := by decide +kernel
theorem dX6_share_56 : decode cX6_share 56 = .ok (.aload_n 0, 1) := by decide +kernel
theorem dX6_share_57 : decode cX6_share 57 = .ok (.getfield 19, 3) := by decide +kernel
theorem dX6_share_60 : decode cX6_share 60 = .ok (.getfield 100, 3) := by decide +kernel
theorem dX6_share_63 : decode cX6_share 63 = .ok (.goto 10, 3) := by decide +kernel
theorem dX6_share_66 : decode cX6_share 66 = .ok (.aload_n 0, 1) := by decide +kernel
theorem dX6_share_67 : decode cX6_share 67 = .ok (.getfield 19, 3) := by decide +kernel
theorem dX6_share_70 : decode cX6_share 70 = .ok (.getfield 104, 3) := by decide +kernel
theorem dX6_share_73 : decode cX6_share 73 = .ok (.iload_n 2, 1) := by decide +kernel
theorem dX6_share_74 : decode cX6_share 74 = .ok (.iload_n 3, 1) := by decide +kernel
theorem dX6_share_75 : decode cX6_share 75 = .ok (.invokestatic 107, 3) := by decide +kernel
theorem dX6_share_78 : decode cX6_share 78 = .ok (.ireturn, 1) := by decide +kernel
set_option maxRecDepth 20000 in
theorem ggX6_mean_X3_isEnd : GoodIn wsX6_mean wsX3_isEnd := goodIn_r _ [9, 10, 11, 12, 13, 53, 54, 55] (by decide +kernel) (by decide +kernel)
set_option maxRecDepth 20000 in
theorem gX6_mean_X3_isEnd : GoodIn wsX6_mean (wsV RX6 83 RX3 yX3_isEnd wsX3_isEnd) := goodIn_app (goodIn_of _ (by decide +kernel)) ggX6_mean_X3_isEnd
set_option maxRecDepth 20000 in
theorem ggX6_mean_X6_isWithin : GoodIn wsX6_mean wsX6_isWithin := goodIn_r _ [13] (by decide +kernel) (by decide +kernel)
set_option maxRecDepth 20000 in
theorem gX6_mean_X6_isWithin : GoodIn wsX6_mean (va_wsS RX6 34 yX6_isWithin wsX6_isWithin) := goodIn_app (goodIn_of _ (by decide +kernel)) ggX6_mean_X6_isWithin
set_option maxRecDepth 20000 in
theorem ggX6_mean_X2_total : GoodIn wsX6_mean wsX2_total := goodIn_r _ [18] (by decide +kernel) (by decide +kernel)
set_option maxRecDepth 20000 in
theorem gX6_mean_X2_total : GoodIn wsX6_mean (va_wsS RX6 113 yX2_total wsX2_total) := goodIn_app (goodIn_of _ (by decide +kernel)) ggX6_mean_X2_total
set_option maxRecDepth 20000 in
theorem ggX6_mean_X2_costsBy : GoodIn wsX6_mean wsX2_costsBy := goodIn_r _ [22, 23, 24, 25, 26, 8, 27, 28, 29, 53, 54, 55, 51, 52, 56, 57, 58, 59, 60, 61, 62, 63, 64] (by decide +kernel) (by decide +kernel)
set_option maxRecDepth 20000 in
theorem gX6_mean_X2_costsBy : GoodIn wsX6_mean (wsV RX6 119 RX2 yX2_costsBy wsX2_costsBy) := goodIn_app (goodIn_of _ (by decide +kernel)) ggX6_mean_X2_costsBy
set_option maxRecDepth 20000 in
theorem ggX6_mean_X3_knownBy : GoodIn wsX6_mean wsX3_knownBy := goodIn_r _ [33, 29, 28, 34, 35, 36, 37, 53, 54, 55, 56, 57, 58, 59, 60, 61, 62, 63, 64] (by decide +kernel) (by decide +kernel)
set_option maxRecDepth 20000 in
theorem gX6_mean_X3_knownBy : GoodIn wsX6_mean (wsV RX6 61 RX3 yX3_knownBy wsX3_knownBy) := goodIn_app (goodIn_of _ (by decide +kernel)) ggX6_mean_X3_knownBy
set_option maxRecDepth 20000 in
theorem ggX6_mean_X6_leastForm : GoodIn wsX6_mean wsX6_leastForm := goodIn_r _ [40, 41, 42, 12, 43, 44, 45, 46] (by decide +kernel) (by decide +kernel)
set_option maxRecDepth 20000 in
theorem gX6_mean_X6_leastForm : GoodIn wsX6_mean (va_wsS RX6 123 yX6_leastForm wsX6_leastForm) := goodIn_app (goodIn_of _ (by decide +kernel)) ggX6_mean_X6_leastForm
theorem dX6_mean_0 : decode cX6_mean 0 = .ok (.aload_n 0, 1) := by decide +kernel
theorem dX6_mean_1 : decode cX6_mean 1 = .ok (.getfield 10, 3) := by decide +kernel
theorem dX6_mean_4 : decode cX6_mean 4 = .ok (.iload_n 1, 1) := by decide +kernel
theorem dX6_mean_5 : decode cX6_mean 5 = .ok (.invokevirtual 83, 3) := by decide +kernel
theorem dX6_mean_8 : decode cX6_mean 8 = .ok (.ifCond .eq 12, 3) := by decide +kernel
theorem dX6_mean_11 : decode cX6_mean 11 = .ok (.iload_n 2, 1) := by decide +kernel
theorem dX6_mean_12 : decode cX6_mean 12 = .ok (.iconst 0, 1) := by decide +kernel
theorem dX6_mean_13 : decode cX6_mean 13 = .ok (.iconst 1, 1) := by decide +kernel
theorem dX6_mean_14 : decode cX6_mean 14 = .ok (.invokestatic 34, 3) := by decide +kernel
theorem dX6_mean_17 : decode cX6_mean 17 = .ok (.ifCond .ne 7, 3) := by decide +kernel
theorem dX6_mean_20 : decode cX6_mean 20 = .ok (.ldc2_w 111, 3) := by decide +kernel
theorem dX6_mean_23 : decode cX6_mean 23 = .ok (.lreturn, 1) := by decide +kernel
theorem dX6_mean_24 : decode cX6_mean 24 = .ok (.aload_n 0, 1) := by decide +kernel
theorem dX6_mean_25 : decode cX6_mean 25 = .ok (.getfield 19, 3) := by decide +kernel
theorem dX6_mean_28 : decode cX6_mean 28 = .ok (.getfield 100, 3) := by decide +kernel
theorem dX6_mean_31 : decode cX6_mean 31 = .ok (.invokestatic 113, 3) := by decide +kernel
theorem dX6_mean_34 : decode cX6_mean 34 = .ok (.istore_n 3, 1) := by decide +kernel
theorem dX6_mean_35 : decode cX6_mean 35 = .ok (.iload_n 3, 1) := by decide +kernel
theorem dX6_mean_36 : decode cX6_mean 36 = .ok (.ifCond .ne 7, 3) := by decide +kernel
theorem dX6_mean_39 : decode cX6_mean 39 = .ok (.ldc2_w 117, 3) := by decide +kernel
theorem dX6_mean_42 : decode cX6_mean 42 = .ok (.lreturn, 1) := by decide +kernel
theorem dX6_mean_43 : decode cX6_mean 43 = .ok (.aload_n 0, 1) := by decide +kernel
theorem dX6_mean_44 : decode cX6_mean 44 = .ok (.getfield 19, 3) := by decide +kernel
theorem dX6_mean_47 : decode cX6_mean 47 = .ok (.aload_n 0, 1) := by decide +kernel
theorem dX6_mean_48 : decode cX6_mean 48 = .ok (.getfield 10, 3) := by decide +kernel
theorem dX6_mean_51 : decode cX6_mean 51 = .ok (.iload_n 1, 1) := by decide +kernel
theorem dX6_mean_52 : decode cX6_mean 52 = .ok (.invokevirtual 119, 3) := by decide +kernel
theorem dX6_mean_55 : decode cX6_mean 55 = .ok (.aload_n 0, 1) := by decide +kernel
theorem dX6_mean_56 : decode cX6_mean 56 = .ok (.getfield 10, 3) := by decide +kernel
theorem dX6_mean_59 : decode cX6_mean 59 = .ok (.iload_n 1, 1) := by decide +kernel
theorem dX6_mean_60 : decode cX6_mean 60 = .ok (.invokevirtual 61, 3) := by decide +kernel
theorem dX6_mean_63 : decode cX6_mean 63 = .ok (.i2l, 1) := by decide +kernel
theorem dX6_mean_64 : decode cX6_mean 64 = .ok (.iload_n 3, 1) := by decide +kernel
theorem dX6_mean_65 : decode cX6_mean 65 = .ok (.i2l, 1) := by decide +kernel
theorem dX6_mean_66 : decode cX6_mean 66 = .ok (.lmul, 1) := by decide +kernel
theorem dX6_mean_67 : decode cX6_mean 67 = .ok (.iload_n 2, 1) := by decide +kernel
theorem dX6_mean_68 : decode cX6_mean 68 = .ok (.invokestatic 123, 3) := by decide +kernel
theorem dX6_mean_71 : decode cX6_mean 71 = .ok (.lreturn, 1) := by decide +kernel
set_option maxRecDepth 20000 in
theorem ggX6_bound_X6_isWithin : GoodIn wsX6_bound wsX6_isWithin := goodIn_r _ [6] (by decide +kernel) (by decide +kernel)
set_option maxRecDepth 20000 in
theorem gX6_bound_X6_isWithin : GoodIn wsX6_bound (va_wsS RX6 34 yX6_isWithin wsX6_isWithin) := goodIn_app (goodIn_of _ (by decide +kernel)) ggX6_bound_X6_isWithin
set_option maxRecDepth 20000 in
theorem ggX6_bound_X2_total : GoodIn wsX6_bound wsX2_total := goodIn_r _ [10] (by decide +kernel) (by decide +kernel)
set_option maxRecDepth 20000 in
theorem gX6_bound_X2_total : GoodIn wsX6_bound (va_wsS RX6 113 yX2_total wsX2_total) := goodIn_app (goodIn_of _ (by decide +kernel)) ggX6_bound_X2_total
set_option maxRecDepth 20000 in
theorem ggX6_bound_X2_upperBound : GoodIn wsX6_bound wsX2_upperBound := goodIn_r _ [14, 15, 16, 17, 18, 19, 20, 21, 22, 9, 23, 24, 25, 26, 27, 28, 29, 30, 31, 32, 33, 34, 35, 36, 37, 38, 39, 5, 40, 41, 42, 43, 63, 64, 65, 61, 62, 66, 67, 68, 69, 70, 71, 72, 73, 74] (by decide +kernel) (by decide +kernel)
set_option maxRecDepth 20000 in
theorem gX6_bound_X2_upperBound : GoodIn wsX6_bound (wsV RX6 127 RX2 yX2_upperBound wsX2_upperBound) := goodIn_app (goodIn_of _ (by decide +kernel)) ggX6_bound_X2_upperBound
set_option maxRecDepth 20000 in
theorem ggX6_bound_X2_lowerBound : GoodIn wsX6_bound wsX2_lowerBound := goodIn_r _ [47, 48, 49, 18, 50, 15, 51, 52, 53, 9, 54, 55, 56, 25, 26, 27, 28, 29, 30, 31, 32, 33, 34, 35, 36, 37, 38, 42, 5, 43, 63, 64, 65, 61, 62, 66, 67, 68, 69, 70, 71, 72, 73, 74] (by decide +kernel) (by decide +kernel)
set_option maxRecDepth 20000 in
theorem gX6_bound_X2_lowerBound : GoodIn wsX6_bound (wsV RX6 130 RX2 yX2_lowerBound wsX2_lowerBound) := goodIn_app (goodIn_of _ (by decide +kernel)) ggX6_bound_X2_lowerBound
theorem dX6_bound_0 : decode cX6_bound 0 = .ok (.iload_n 1, 1) := by decide +kernel
theorem dX6_bound_1 : decode cX6_bound 1 = .ok (.iconst 0, 1) := by decide +kernel
theorem dX6_bound_2 : decode cX6_bound 2 = .ok (.iconst 1, 1) := by decide +kernel
theorem dX6_bound_3 : decode cX6_bound 3 = .ok (.invokestatic 34, 3) := by decide +kernel
theorem dX6_bound_6 : decode cX6_bound 6 = .ok (.ifCond .ne 5, 3) := by decide +kernel
theorem dX6_bound_9 : decode cX6_bound 9 = .ok (.iconst (-1), 1) := by decide +kernel
theorem dX6_bound_10 : decode cX6_bound 10 = .ok (.ireturn, 1) := by decide +kernel
theorem dX6_bound_11 : decode cX6_bound 11 = .ok (.iload_n 1, 1) := by decide +kernel
theorem dX6_bound_12 : decode cX6_bound 12 = .ok (.ifCond .ne 13, 3) := by decide +kernel
theorem dX6_bound_15 : decode cX6_bound 15 = .ok (.aload_n 0, 1) := by decide +kernel
theorem dX6_bound_16 : decode cX6_bound 16 = .ok (.getfield 19, 3) := by decide +kernel
theorem dX6_bound_19 : decode cX6_bound 19 = .ok (.getfield 100, 3) := by decide +kernel
theorem dX6_bound_22 : decode cX6_bound 22 = .ok (.goto 10, 3) := by decide +kernel
theorem dX6_bound_25 : decode cX6_bound 25 = .ok (.aload_n 0, 1) := by decide +kernel
theorem dX6_bound_26 : decode cX6_bound 26 = .ok (.getfield 19, 3) := by decide +kernel
theorem dX6_bound_29 : decode cX6_bound 29 = .ok (.getfield 104, 3) := by decide +kernel
theorem dX6_bound_32 : decode cX6_bound 32 = .ok (.invokestatic 113, 3) := by decide +kernel
theorem dX6_bound_35 : decode cX6_bound 35 = .ok (.istore_n 2, 1) := by decide +kernel
theorem dX6_bound_36 : decode cX6_bound 36 = .ok (.iload_n 2, 1) := by decide +kernel
theorem dX6_bound_37 : decode cX6_bound 37 = .ok (.ifCond .ne 6, 3) := by decide +kernel
theorem dX6_bound_40 : decode cX6_bound 40 = .ok (.bipush (-2), 2) := by decide +kernel
theorem dX6_bound_42 : decode cX6_bound 42 = .ok (.ireturn, 1) := by decide +kernel
theorem dX6_bound_43 : decode cX6_bound 43 = .ok (.iload_n 1, 1) := by decide +kernel
theorem dX6_bound_44 : decode cX6_bound 44 = .ok (.ifCond .ne 18, 3) := by decide +kernel
theorem dX6_bound_47 : decode cX6_bound 47 = .ok (.aload_n 0, 1) := by decide +kernel
theorem dX6_bound_48 : decode cX6_bound 48 = .ok (.getfield 19, 3) := by decide +kernel
theorem dX6_bound_51 : decode cX6_bound 51 = .ok (.aload_n 0, 1) := by decide +kernel
theorem dX6_bound_52 : decode cX6_bound 52 = .ok (.getfield 10, 3) := by decide +kernel
theorem dX6_bound_55 : decode cX6_bound 55 = .ok (.iload_n 2, 1) := by decide +kernel
theorem dX6_bound_56 : decode cX6_bound 56 = .ok (.invokevirtual 127, 3) := by decide +kernel
theorem dX6_bound_59 : decode cX6_bound 59 = .ok (.goto 15, 3) := by decide +kernel
theorem dX6_bound_62 : decode cX6_bound 62 = .ok (.aload_n 0, 1) := by decide +kernel
theorem dX6_bound_63 : decode cX6_bound 63 = .ok (.getfield 19, 3) := by decide +kernel
theorem dX6_bound_66 : decode cX6_bound 66 = .ok (.aload_n 0, 1) := by decide +kernel
theorem dX6_bound_67 : decode cX6_bound 67 = .ok (.getfield 10, 3) := by decide +kernel
theorem dX6_bound_70 : decode cX6_bound 70 = .ok (.iload_n 2, 1) := by decide +kernel
theorem dX6_bound_71 : decode cX6_bound 71 = .ok (.invokevirtual 130, 3) := by decide +kernel
theorem dX6_bound_74 : decode cX6_bound 74 = .ok (.l2i, 1) := by decide +kernel
theorem dX6_bound_75 : decode cX6_bound 75 = .ok (.ireturn, 1) := by decide +kernel
set_option maxRecDepth 20000 in
theorem ggX6_guess_X3_isEnd : GoodIn wsX6_guess wsX3_isEnd := goodIn_r _ [6, 7, 8, 9, 10, 55, 56, 57] (by decide +kernel) (by decide +kernel)
set_option maxRecDepth 20000 in
theorem gX6_guess_X3_isEnd : GoodIn wsX6_guess (wsV RX6 83 RX3 yX3_isEnd wsX3_isEnd) := goodIn_app (goodIn_of _ (by decide +kernel)) ggX6_guess_X3_isEnd
set_option maxRecDepth 20000 in
theorem ggX6_guess_X6_isWithin : GoodIn wsX6_guess wsX6_isWithin := goodIn_r _ [10] (by decide +kernel) (by decide +kernel)
set_option maxRecDepth 20000 in
theorem gX6_guess_X6_isWithin : GoodIn wsX6_guess (va_wsS RX6 34 yX6_isWithin wsX6_isWithin) := goodIn_app (goodIn_of _ (by decide +kernel)) ggX6_guess_X6_isWithin
set_option maxRecDepth 20000 in
theorem ggX6_guess_X3_planByGuess : GoodIn wsX6_guess wsX3_planByGuess := goodIn_r _ [15, 16, 17, 7, 18, 19, 20, 21, 22, 23, 24, 5, 25, 26, 27, 28, 29, 30, 31, 32, 33, 34, 35, 36, 37, 38, 39, 40, 41, 42, 43, 44, 45, 46, 9, 47, 48, 49, 50, 55, 56, 57, 58, 59, 60, 61, 62, 63, 64, 65, 66] (by decide +kernel) (by decide +kernel)
set_option maxRecDepth 20000 in
theorem gX6_guess_X3_planByGuess : GoodIn wsX6_guess (wsV RX6 133 RX3 yX3_planByGuess wsX3_planByGuess) := goodIn_app (goodIn_of _ (by decide +kernel)) ggX6_guess_X3_planByGuess
theorem dX6_guess_0 : decode cX6_guess 0 = .ok (.aload_n 0, 1) := by decide +kernel
theorem dX6_guess_1 : decode cX6_guess 1 = .ok (.getfield 10, 3) := by decide +kernel
theorem dX6_guess_4 : decode cX6_guess 4 = .ok (.iload_n 1, 1) := by decide +kernel
theorem dX6_guess_5 : decode cX6_guess 5 = .ok (.invokevirtual 83, 3) := by decide +kernel
theorem dX6_guess_8 : decode cX6_guess 8 = .ok (.ifCond .eq 13, 3) := by decide +kernel
theorem dX6_guess_11 : decode cX6_guess 11 = .ok (.iload_n 2, 1) := by decide +kernel
theorem dX6_guess_12 : decode cX6_guess 12 = .ok (.iconst 1, 1) := by decide +kernel
theorem dX6_guess_13 : decode cX6_guess 13 = .ok (.bipush 9, 2) := by decide +kernel
theorem dX6_guess_15 : decode cX6_guess 15 = .ok (.invokestatic 34, 3) := by decide +kernel
theorem dX6_guess_18 : decode cX6_guess 18 = .ok (.ifCond .ne 5, 3) := by decide +kernel
theorem dX6_guess_21 : decode cX6_guess 21 = .ok (.iconst (-1), 1) := by decide +kernel
theorem dX6_guess_22 : decode cX6_guess 22 = .ok (.ireturn, 1) := by decide +kernel
theorem dX6_guess_23 : decode cX6_guess 23 = .ok (.aload_n 0, 1) := by decide +kernel
theorem dX6_guess_24 : decode cX6_guess 24 = .ok (.getfield 10, 3) := by decide +kernel
theorem dX6_guess_27 : decode cX6_guess 27 = .ok (.iload_n 1, 1) := by decide +kernel
theorem dX6_guess_28 : decode cX6_guess 28 = .ok (.iload_n 2, 1) := by decide +kernel
theorem dX6_guess_29 : decode cX6_guess 29 = .ok (.invokevirtual 133, 3) := by decide +kernel
theorem dX6_guess_32 : decode cX6_guess 32 = .ok (.ireturn, 1) := by decide +kernel
set_option maxRecDepth 20000 in
theorem ggX6_trust_X3_isEnd : GoodIn wsX6_trust wsX3_isEnd := goodIn_r _ [6, 7, 8, 9, 10, 65, 66, 67] (by decide +kernel) (by decide +kernel)
set_option maxRecDepth 20000 in
theorem gX6_trust_X3_isEnd : GoodIn wsX6_trust (wsV RX6 83 RX3 yX3_isEnd wsX3_isEnd) := goodIn_app (goodIn_of _ (by decide +kernel)) ggX6_trust_X3_isEnd
set_option maxRecDepth 20000 in
theorem ggX6_trust_X6_isWithin : GoodIn wsX6_trust wsX6_isWithin := goodIn_r _ [10] (by decide +kernel) (by decide +kernel)
set_option maxRecDepth 20000 in
theorem gX6_trust_X6_isWithin : GoodIn wsX6_trust (va_wsS RX6 34 yX6_isWithin wsX6_isWithin) := goodIn_app (goodIn_of _ (by decide +kernel)) ggX6_trust_X6_isWithin
set_option maxRecDepth 20000 in
theorem ggX6_trust_X3_planByGuess : GoodIn wsX6_trust wsX3_planByGuess := goodIn_r _ [15, 16, 17, 7, 18, 19, 20, 21, 22, 23, 24, 5, 25, 26, 27, 28, 29, 30, 31, 32, 33, 34, 35, 36, 37, 38, 39, 40, 41, 42, 43, 44, 45, 46, 9, 47, 48, 49, 50, 65, 66, 67, 68, 69, 70, 71, 72, 73, 74, 75, 76] (by decide +kernel) (by decide +kernel)
set_option maxRecDepth 20000 in
theorem gX6_trust_X3_planByGuess : GoodIn wsX6_trust (wsV RX6 133 RX3 yX3_planByGuess wsX3_planByGuess) := goodIn_app (goodIn_of _ (by decide +kernel)) ggX6_trust_X3_planByGuess
set_option maxRecDepth 20000 in
theorem ggX6_trust_X3_worstEnd : GoodIn wsX6_trust wsX3_worstEnd := goodIn_r _ [29, 7, 30, 31, 32, 5, 33, 34, 35, 36, 37, 16, 38, 39, 40, 41, 42, 43, 44, 20, 45, 65, 66, 67, 68, 69, 70, 71, 72, 73, 74, 75, 76] (by decide +kernel) (by decide +kernel)
set_option maxRecDepth 20000 in
theorem gX6_trust_X3_worstEnd : GoodIn wsX6_trust (wsV RX6 90 RX3 yX3_worstEnd wsX3_worstEnd) := goodIn_app (goodIn_of _ (by decide +kernel)) ggX6_trust_X3_worstEnd
set_option maxRecDepth 20000 in
theorem ggX6_trust_X3_ratioPart : GoodIn wsX6_trust wsX3_ratioPart := goodIn_r _ [55, 34, 35, 36, 5, 37, 16, 38, 39, 40, 41, 42, 43, 44, 20, 45, 56, 9, 57, 58, 59, 60, 48, 49, 50, 65, 66, 67, 68, 69, 70, 71, 72, 73, 74, 75, 76] (by decide +kernel) (by decide +kernel)
set_option maxRecDepth 20000 in
theorem gX6_trust_X3_ratioPart : GoodIn wsX6_trust (wsV RX6 93 RX3 yX3_ratioPart wsX3_ratioPart) := goodIn_app (goodIn_of _ (by decide +kernel)) ggX6_trust_X3_ratioPart
theorem dX6_trust_0 : decode cX6_trust 0 = .ok (.aload_n 0, 1) := by decide +kernel
theorem dX6_trust_1 : decode cX6_trust 1 = .ok (.getfield 10, 3) := by decide +kernel
theorem dX6_trust_4 : decode cX6_trust 4 = .ok (.iload_n 1, 1) := by decide +kernel
theorem dX6_trust_5 : decode cX6_trust 5 = .ok (.invokevirtual 83, 3) := by decide +kernel
theorem dX6_trust_8 : decode cX6_trust 8 = .ok (.ifCond .eq 13, 3) := by decide +kernel
theorem dX6_trust_11 : decode cX6_trust 11 = .ok (.iload_n 2, 1) := by decide +kernel
theorem dX6_trust_12 : decode cX6_trust 12 = .ok (.iconst 1, 1) := by decide +kernel
theorem dX6_trust_13 : decode cX6_trust 13 = .ok (.bipush 9, 2) := by decide +kernel
theorem dX6_trust_15 : decode cX6_trust 15 = .ok (.invokestatic 34, 3) := by decide +kernel
theorem dX6_trust_18 : decode cX6_trust 18 = .ok (.ifCond .ne 5, 3) := by decide +kernel
theorem dX6_trust_21 : decode cX6_trust 21 = .ok (.iconst (-1), 1) := by decide +kernel
theorem dX6_trust_22 : decode cX6_trust 22 = .ok (.ireturn, 1) := by decide +kernel
theorem dX6_trust_23 : decode cX6_trust 23 = .ok (.iload_n 3, 1) := by decide +kernel
theorem dX6_trust_24 : decode cX6_trust 24 = .ok (.iconst 0, 1) := by decide +kernel
theorem dX6_trust_25 : decode cX6_trust 25 = .ok (.iconst 1, 1) := by decide +kernel
theorem dX6_trust_26 : decode cX6_trust 26 = .ok (.invokestatic 34, 3) := by decide +kernel
theorem dX6_trust_29 : decode cX6_trust 29 = .ok (.ifCond .eq 13, 3) := by decide +kernel
theorem dX6_trust_32 : decode cX6_trust 32 = .ok (.iload 4, 2) := by decide +kernel
theorem dX6_trust_34 : decode cX6_trust 34 = .ok (.iconst 0, 1) := by decide +kernel
theorem dX6_trust_35 : decode cX6_trust 35 = .ok (.iconst 1, 1) := by decide +kernel
theorem dX6_trust_36 : decode cX6_trust 36 = .ok (.invokestatic 34, 3) := by decide +kernel
theorem dX6_trust_39 : decode cX6_trust 39 = .ok (.ifCond .ne 5, 3) := by decide +kernel
theorem dX6_trust_42 : decode cX6_trust 42 = .ok (.iconst (-1), 1) := by decide +kernel
theorem dX6_trust_43 : decode cX6_trust 43 = .ok (.ireturn, 1) := by decide +kernel
theorem dX6_trust_44 : decode cX6_trust 44 = .ok (.aload_n 0, 1) := by decide +kernel
theorem dX6_trust_45 : decode cX6_trust 45 = .ok (.getfield 10, 3) := by decide +kernel
theorem dX6_trust_48 : decode cX6_trust 48 = .ok (.iload_n 1, 1) := by decide +kernel
theorem dX6_trust_49 : decode cX6_trust 49 = .ok (.iload_n 2, 1) := by decide +kernel
theorem dX6_trust_50 : decode cX6_trust 50 = .ok (.invokevirtual 133, 3) := by decide +kernel
theorem dX6_trust_53 : decode cX6_trust 53 = .ok (.istore 5, 2) := by decide +kernel
theorem dX6_trust_55 : decode cX6_trust 55 = .ok (.aload_n 0, 1) := by decide +kernel
theorem dX6_trust_56 : decode cX6_trust 56 = .ok (.getfield 10, 3) := by decide +kernel
theorem dX6_trust_59 : decode cX6_trust 59 = .ok (.iload 5, 2) := by decide +kernel
theorem dX6_trust_61 : decode cX6_trust 61 = .ok (.iload_n 3, 1) := by decide +kernel
end
section
theorem dX6_trust_62 : decode cX6_trust 62 = .ok (.ifCond .ne 7, 3) := by decide +kernel
theorem dX6_trust_65 : decode cX6_trust 65 = .ok (.iload_n 1, 1) := by decide +kernel
theorem dX6_trust_66 : decode cX6_trust 66 = .ok (.goto 12, 3) := by decide +kernel
theorem dX6_trust_69 : decode cX6_trust 69 = .ok (.aload_n 0, 1) := by decide +kernel
theorem dX6_trust_70 : decode cX6_trust 70 = .ok (.getfield 10, 3) := by decide +kernel
theorem dX6_trust_73 : decode cX6_trust 73 = .ok (.iload 5, 2) := by decide +kernel
theorem dX6_trust_75 : decode cX6_trust 75 = .ok (.invokevirtual 90, 3) := by decide +kernel
theorem dX6_trust_78 : decode cX6_trust 78 = .ok (.iload 4, 2) := by decide +kernel
theorem dX6_trust_80 : decode cX6_trust 80 = .ok (.invokevirtual 93, 3) := by decide +kernel
theorem dX6_trust_83 : decode cX6_trust 83 = .ok (.ireturn, 1) := by decide +kernel
set_option maxRecDepth 20000 in
theorem ggX6_list_X6_isWithin : GoodIn wsX6_list wsX6_isWithin := goodIn_r _ [5] (by decide +kernel) (by decide +kernel)
set_option maxRecDepth 20000 in
theorem gX6_list_X6_isWithin : GoodIn wsX6_list (va_wsS RX6 34 yX6_isWithin wsX6_isWithin) := goodIn_app (goodIn_of _ (by decide +kernel)) ggX6_list_X6_isWithin
set_option maxRecDepth 20000 in
theorem ggX6_list_X5_restart : GoodIn wsX6_list wsX5_restart := goodIn_r _ [10, 11, 12, 13, 14, 15, 9, 16, 17, 18, 19, 20, 21, 22, 23, 24, 25, 30, 31, 32, 33, 34, 35] (by decide +kernel) (by decide +kernel)
set_option maxRecDepth 20000 in
theorem gX6_list_X5_restart : GoodIn wsX6_list (wsV RX6 139 RX5 yX5_restart wsX5_restart) := goodIn_app (goodIn_of _ (by decide +kernel)) ggX6_list_X5_restart
theorem dX6_list_0 : decode cX6_list 0 = .ok (.iload_n 1, 1) := by decide +kernel
theorem dX6_list_1 : decode cX6_list 1 = .ok (.iconst 1, 1) := by decide +kernel
theorem dX6_list_2 : decode cX6_list 2 = .ok (.iconst 4, 1) := by decide +kernel
theorem dX6_list_3 : decode cX6_list 3 = .ok (.invokestatic 34, 3) := by decide +kernel
theorem dX6_list_6 : decode cX6_list 6 = .ok (.ifCond .ne 5, 3) := by decide +kernel
theorem dX6_list_9 : decode cX6_list 9 = .ok (.iconst (-1), 1) := by decide +kernel
theorem dX6_list_10 : decode cX6_list 10 = .ok (.ireturn, 1) := by decide +kernel
theorem dX6_list_11 : decode cX6_list 11 = .ok (.aload_n 0, 1) := by decide +kernel
theorem dX6_list_12 : decode cX6_list 12 = .ok (.getfield 26, 3) := by decide +kernel
theorem dX6_list_15 : decode cX6_list 15 = .ok (.getfield 136, 3) := by decide +kernel
theorem dX6_list_18 : decode cX6_list 18 = .ok (.istore_n 2, 1) := by decide +kernel
theorem dX6_list_19 : decode cX6_list 19 = .ok (.aload_n 0, 1) := by decide +kernel
theorem dX6_list_20 : decode cX6_list 20 = .ok (.getfield 26, 3) := by decide +kernel
theorem dX6_list_23 : decode cX6_list 23 = .ok (.iload_n 1, 1) := by decide +kernel
theorem dX6_list_24 : decode cX6_list 24 = .ok (.invokevirtual 139, 3) := by decide +kernel
theorem dX6_list_27 : decode cX6_list 27 = .ok (.iload_n 2, 1) := by decide +kernel
theorem dX6_list_28 : decode cX6_list 28 = .ok (.ireturn, 1) := by decide +kernel
set_option maxRecDepth 20000 in
theorem ggX6_request_X6_isWithin : GoodIn wsX6_request wsX6_isWithin := goodIn_r _ [5] (by decide +kernel) (by decide +kernel)
set_option maxRecDepth 20000 in
theorem gX6_request_X6_isWithin : GoodIn wsX6_request (va_wsS RX6 34 yX6_isWithin wsX6_isWithin) := goodIn_app (goodIn_of _ (by decide +kernel)) ggX6_request_X6_isWithin
theorem dX6_request_0 : decode cX6_request 0 = .ok (.iload_n 1, 1) := by decide +kernel
theorem dX6_request_1 : decode cX6_request 1 = .ok (.iconst 0, 1) := by decide +kernel
theorem dX6_request_2 : decode cX6_request 2 = .ok (.aload_n 0, 1) := by decide +kernel
theorem dX6_request_3 : decode cX6_request 3 = .ok (.getfield 26, 3) := by decide +kernel
theorem dX6_request_6 : decode cX6_request 6 = .ok (.getfield 136, 3) := by decide +kernel
theorem dX6_request_9 : decode cX6_request 9 = .ok (.iconst 1, 1) := by decide +kernel
theorem dX6_request_10 : decode cX6_request 10 = .ok (.isub, 1) := by decide +kernel
theorem dX6_request_11 : decode cX6_request 11 = .ok (.invokestatic 34, 3) := by decide +kernel
theorem dX6_request_14 : decode cX6_request 14 = .ok (.ifCond .ne 5, 3) := by decide +kernel
theorem dX6_request_17 : decode cX6_request 17 = .ok (.iconst (-1), 1) := by decide +kernel
theorem dX6_request_18 : decode cX6_request 18 = .ok (.ireturn, 1) := by decide +kernel
theorem dX6_request_19 : decode cX6_request 19 = .ok (.aload_n 0, 1) := by decide +kernel
theorem dX6_request_20 : decode cX6_request 20 = .ok (.getfield 26, 3) := by decide +kernel
theorem dX6_request_23 : decode cX6_request 23 = .ok (.getfield 143, 3) := by decide +kernel
theorem dX6_request_26 : decode cX6_request 26 = .ok (.bipush 16, 2) := by decide +kernel
theorem dX6_request_28 : decode cX6_request 28 = .ok (.if_icmp .lt 6, 3) := by decide +kernel
theorem dX6_request_31 : decode cX6_request 31 = .ok (.bipush (-3), 2) := by decide +kernel
theorem dX6_request_33 : decode cX6_request 33 = .ok (.ireturn, 1) := by decide +kernel
theorem dX6_request_34 : decode cX6_request 34 = .ok (.aload_n 0, 1) := by decide +kernel
theorem dX6_request_35 : decode cX6_request 35 = .ok (.getfield 26, 3) := by decide +kernel
theorem dX6_request_38 : decode cX6_request 38 = .ok (.getfield 146, 3) := by decide +kernel
theorem dX6_request_41 : decode cX6_request 41 = .ok (.aload_n 0, 1) := by decide +kernel
theorem dX6_request_42 : decode cX6_request 42 = .ok (.getfield 26, 3) := by decide +kernel
theorem dX6_request_45 : decode cX6_request 45 = .ok (.getfield 143, 3) := by decide +kernel
theorem dX6_request_48 : decode cX6_request 48 = .ok (.iload_n 1, 1) := by decide +kernel
theorem dX6_request_49 : decode cX6_request 49 = .ok (.iastore, 1) := by decide +kernel
theorem dX6_request_50 : decode cX6_request 50 = .ok (.aload_n 0, 1) := by decide +kernel
theorem dX6_request_51 : decode cX6_request 51 = .ok (.getfield 26, 3) := by decide +kernel
theorem dX6_request_54 : decode cX6_request 54 = .ok (.dup, 1) := by decide +kernel
theorem dX6_request_55 : decode cX6_request 55 = .ok (.getfield 143, 3) := by decide +kernel
theorem dX6_request_58 : decode cX6_request 58 = .ok (.iconst 1, 1) := by decide +kernel
theorem dX6_request_59 : decode cX6_request 59 = .ok (.iadd, 1) := by decide +kernel
theorem dX6_request_60 : decode cX6_request 60 = .ok (.putfield 143, 3) := by decide +kernel
theorem dX6_request_63 : decode cX6_request 63 = .ok (.aload_n 0, 1) := by decide +kernel
theorem dX6_request_64 : decode cX6_request 64 = .ok (.getfield 26, 3) := by decide +kernel
theorem dX6_request_67 : decode cX6_request 67 = .ok (.getfield 143, 3) := by decide +kernel
theorem dX6_request_70 : decode cX6_request 70 = .ok (.ireturn, 1) := by decide +kernel
theorem dX6_drop_0 : decode cX6_drop 0 = .ok (.aload_n 0, 1) := by decide +kernel
theorem dX6_drop_1 : decode cX6_drop 1 = .ok (.getfield 26, 3) := by decide +kernel
theorem dX6_drop_4 : decode cX6_drop 4 = .ok (.getfield 143, 3) := by decide +kernel
theorem dX6_drop_7 : decode cX6_drop 7 = .ok (.ifCond .ne 6, 3) := by decide +kernel
theorem dX6_drop_10 : decode cX6_drop 10 = .ok (.bipush (-2), 2) := by decide +kernel
theorem dX6_drop_12 : decode cX6_drop 12 = .ok (.ireturn, 1) := by decide +kernel
theorem dX6_drop_13 : decode cX6_drop 13 = .ok (.aload_n 0, 1) := by decide +kernel
theorem dX6_drop_14 : decode cX6_drop 14 = .ok (.getfield 26, 3) := by decide +kernel
theorem dX6_drop_17 : decode cX6_drop 17 = .ok (.dup, 1) := by decide +kernel
theorem dX6_drop_18 : decode cX6_drop 18 = .ok (.getfield 143, 3) := by decide +kernel
theorem dX6_drop_21 : decode cX6_drop 21 = .ok (.iconst 1, 1) := by decide +kernel
theorem dX6_drop_22 : decode cX6_drop 22 = .ok (.isub, 1) := by decide +kernel
theorem dX6_drop_23 : decode cX6_drop 23 = .ok (.putfield 143, 3) := by decide +kernel
theorem dX6_drop_26 : decode cX6_drop 26 = .ok (.aload_n 0, 1) := by decide +kernel
theorem dX6_drop_27 : decode cX6_drop 27 = .ok (.getfield 26, 3) := by decide +kernel
theorem dX6_drop_30 : decode cX6_drop 30 = .ok (.getfield 143, 3) := by decide +kernel
theorem dX6_drop_33 : decode cX6_drop 33 = .ok (.ireturn, 1) := by decide +kernel
set_option maxRecDepth 20000 in
theorem ggX6_serve_X5_frontCost : GoodIn wsX6_serve wsX5_frontCost := goodIn_r _ [6, 7, 8, 9, 10, 11, 5, 12, 13, 14, 15, 16, 17, 18, 19, 20, 21, 22, 23, 24, 25, 26, 27, 70, 71, 72, 73, 74, 75] (by decide +kernel) (by decide +kernel)
set_option maxRecDepth 20000 in
theorem gX6_serve_X5_frontCost : GoodIn wsX6_serve (wsV RX6 149 RX5 yX5_frontCost wsX5_frontCost) := goodIn_app (goodIn_of _ (by decide +kernel)) ggX6_serve_X5_frontCost
set_option maxRecDepth 20000 in
theorem ggX6_serve_X5_firstOrder : GoodIn wsX6_serve wsX5_firstOrder := goodIn_r _ [12, 13, 70, 71, 72, 73, 74, 75] (by decide +kernel) (by decide +kernel)
set_option maxRecDepth 20000 in
theorem gX6_serve_X5_firstOrder : GoodIn wsX6_serve (wsV RX6 152 RX5 yX5_firstOrder wsX5_firstOrder) := goodIn_app (goodIn_of _ (by decide +kernel)) ggX6_serve_X5_firstOrder
set_option maxRecDepth 20000 in
theorem ggX6_serve_X5_stayCost : GoodIn wsX6_serve wsX5_stayCost := goodIn_r _ [32, 7, 8, 14, 15, 16, 5, 17, 13, 18, 19, 20, 70, 71, 72, 73, 74, 75] (by decide +kernel) (by decide +kernel)
set_option maxRecDepth 20000 in
theorem gX6_serve_X5_stayCost : GoodIn wsX6_serve (wsV RX6 155 RX5 yX5_stayCost wsX5_stayCost) := goodIn_app (goodIn_of _ (by decide +kernel)) ggX6_serve_X5_stayCost
set_option maxRecDepth 20000 in
theorem ggX6_serve_X5_bestStayCost : GoodIn wsX6_serve wsX5_bestStayCost := goodIn_r _ [36, 37, 38, 39, 40, 41, 42, 43, 44, 30, 31, 5, 32, 7, 8, 14, 15, 16, 17, 13, 18, 19, 20, 70, 71, 72, 73, 74, 75] (by decide +kernel) (by decide +kernel)
set_option maxRecDepth 20000 in
theorem gX6_serve_X5_bestStayCost : GoodIn wsX6_serve (wsV RX6 158 RX5 yX5_bestStayCost wsX5_bestStayCost) := goodIn_app (goodIn_of _ (by decide +kernel)) ggX6_serve_X5_bestStayCost
set_option maxRecDepth 20000 in
theorem ggX6_serve_X5_bestCost : GoodIn wsX6_serve wsX5_bestCost := goodIn_r _ [48, 38, 49, 39, 37, 7, 8, 40, 41, 42, 43, 9, 10, 11, 5, 12, 13, 50, 51, 52, 53, 54, 55, 56, 57, 25, 26, 27, 18, 19, 20, 58, 59, 60, 61, 14, 15, 16, 17, 62, 63, 64, 65, 70, 71, 72, 73, 74, 75] (by decide +kernel) (by decide +kernel)
set_option maxRecDepth 20000 in
theorem gX6_serve_X5_bestCost : GoodIn wsX6_serve (wsV RX6 161 RX5 yX5_bestCost wsX5_bestCost) := goodIn_app (goodIn_of _ (by decide +kernel)) ggX6_serve_X5_bestCost
theorem dX6_serve_0 : decode cX6_serve 0 = .ok (.iload_n 1, 1) := by decide +kernel
theorem dX6_serve_1 : decode cX6_serve 1 = .ok (.tableswitch 70 0 3 #[31, 39, 54, 62], 31) := by decide +kernel
theorem dX6_serve_32 : decode cX6_serve 32 = .ok (.aload_n 0, 1) := by decide +kernel
theorem dX6_serve_33 : decode cX6_serve 33 = .ok (.getfield 26, 3) := by decide +kernel
theorem dX6_serve_36 : decode cX6_serve 36 = .ok (.invokevirtual 149, 3) := by decide +kernel
theorem dX6_serve_39 : decode cX6_serve 39 = .ok (.ireturn, 1) := by decide +kernel
theorem dX6_serve_40 : decode cX6_serve 40 = .ok (.aload_n 0, 1) := by decide +kernel
theorem dX6_serve_41 : decode cX6_serve 41 = .ok (.getfield 26, 3) := by decide +kernel
theorem dX6_serve_44 : decode cX6_serve 44 = .ok (.aload_n 0, 1) := by decide +kernel
theorem dX6_serve_45 : decode cX6_serve 45 = .ok (.getfield 26, 3) := by decide +kernel
theorem dX6_serve_48 : decode cX6_serve 48 = .ok (.invokevirtual 152, 3) := by decide +kernel
theorem dX6_serve_51 : decode cX6_serve 51 = .ok (.invokevirtual 155, 3) := by decide +kernel
theorem dX6_serve_54 : decode cX6_serve 54 = .ok (.ireturn, 1) := by decide +kernel
theorem dX6_serve_55 : decode cX6_serve 55 = .ok (.aload_n 0, 1) := by decide +kernel
theorem dX6_serve_56 : decode cX6_serve 56 = .ok (.getfield 26, 3) := by decide +kernel
theorem dX6_serve_59 : decode cX6_serve 59 = .ok (.invokevirtual 158, 3) := by decide +kernel
theorem dX6_serve_62 : decode cX6_serve 62 = .ok (.ireturn, 1) := by decide +kernel
theorem dX6_serve_63 : decode cX6_serve 63 = .ok (.aload_n 0, 1) := by decide +kernel
theorem dX6_serve_64 : decode cX6_serve 64 = .ok (.getfield 26, 3) := by decide +kernel
theorem dX6_serve_67 : decode cX6_serve 67 = .ok (.invokevirtual 161, 3) := by decide +kernel
theorem dX6_serve_70 : decode cX6_serve 70 = .ok (.ireturn, 1) := by decide +kernel
theorem dX6_serve_71 : decode cX6_serve 71 = .ok (.iconst (-1), 1) := by decide +kernel
theorem dX6_serve_72 : decode cX6_serve 72 = .ok (.ireturn, 1) := by decide +kernel
set_option maxRecDepth 20000 in
theorem ggX6_at_X6_isWithin : GoodIn wsX6_at wsX6_isWithin := goodIn_r _ [5] (by decide +kernel) (by decide +kernel)
set_option maxRecDepth 20000 in
theorem gX6_at_X6_isWithin : GoodIn wsX6_at (va_wsS RX6 34 yX6_isWithin wsX6_isWithin) := goodIn_app (goodIn_of _ (by decide +kernel)) ggX6_at_X6_isWithin
set_option maxRecDepth 20000 in
theorem ggX6_at_X5_frontOrder : GoodIn wsX6_at wsX5_frontOrder := goodIn_r _ [10, 11, 12, 13, 14, 15, 9, 16, 17, 18, 19, 20, 21, 22, 23, 24, 25, 26, 27, 28, 29, 30, 31, 37, 38, 39, 40, 41, 42] (by decide +kernel) (by decide +kernel)
set_option maxRecDepth 20000 in
theorem gX6_at_X5_frontOrder : GoodIn wsX6_at (wsV RX6 164 RX5 yX5_frontOrder wsX5_frontOrder) := goodIn_app (goodIn_of _ (by decide +kernel)) ggX6_at_X5_frontOrder
set_option maxRecDepth 20000 in
theorem ggX6_at_X5_thingAt : GoodIn wsX6_at wsX5_thingAt := goodIn_r _ [28] (by decide +kernel) (by decide +kernel)
set_option maxRecDepth 20000 in
theorem gX6_at_X5_thingAt : GoodIn wsX6_at (va_wsS RX6 167 yX5_thingAt wsX5_thingAt) := goodIn_app (goodIn_of _ (by decide +kernel)) ggX6_at_X5_thingAt
theorem dX6_at_0 : decode cX6_at 0 = .ok (.iload_n 1, 1) := by decide +kernel
theorem dX6_at_1 : decode cX6_at 1 = .ok (.iconst 1, 1) := by decide +kernel
theorem dX6_at_2 : decode cX6_at 2 = .ok (.aload_n 0, 1) := by decide +kernel
theorem dX6_at_3 : decode cX6_at 3 = .ok (.getfield 26, 3) := by decide +kernel
theorem dX6_at_6 : decode cX6_at 6 = .ok (.getfield 136, 3) := by decide +kernel
theorem dX6_at_9 : decode cX6_at 9 = .ok (.invokestatic 34, 3) := by decide +kernel
theorem dX6_at_12 : decode cX6_at 12 = .ok (.ifCond .ne 5, 3) := by decide +kernel
theorem dX6_at_15 : decode cX6_at 15 = .ok (.iconst (-1), 1) := by decide +kernel
theorem dX6_at_16 : decode cX6_at 16 = .ok (.ireturn, 1) := by decide +kernel
theorem dX6_at_17 : decode cX6_at 17 = .ok (.aload_n 0, 1) := by decide +kernel
theorem dX6_at_18 : decode cX6_at 18 = .ok (.getfield 26, 3) := by decide +kernel
theorem dX6_at_21 : decode cX6_at 21 = .ok (.invokevirtual 164, 3) := by decide +kernel
theorem dX6_at_24 : decode cX6_at 24 = .ok (.iload_n 1, 1) := by decide +kernel
theorem dX6_at_25 : decode cX6_at 25 = .ok (.iconst 1, 1) := by decide +kernel
theorem dX6_at_26 : decode cX6_at 26 = .ok (.isub, 1) := by decide +kernel
theorem dX6_at_27 : decode cX6_at 27 = .ok (.invokestatic 167, 3) := by decide +kernel
theorem dX6_at_30 : decode cX6_at 30 = .ok (.ireturn, 1) := by decide +kernel
set_option maxRecDepth 20000 in
theorem ggX6_count_X0_kindNumber : GoodIn wsX6_count wsX0_kindNumber := goodIn_r _ [9] (by decide +kernel) (by decide +kernel)
set_option maxRecDepth 20000 in
theorem gX6_count_X0_kindNumber_u170X0 : GoodIn wsX6_count (va_wsO RX6 170 RX0 "RentOrBuy$Flat" ⟨"RentOrBuy$Flat", "kindNumber", "()I"⟩ yX0_kindNumber wsX0_kindNumber) := goodIn_app (goodIn_of _ (by decide +kernel)) ggX6_count_X0_kindNumber
set_option maxRecDepth 20000 in
theorem ggX6_count_X1_kindNumber : GoodIn wsX6_count wsX1_kindNumber := goodIn_r _ [10] (by decide +kernel) (by decide +kernel)
set_option maxRecDepth 20000 in
theorem gX6_count_X1_kindNumber : GoodIn wsX6_count (wsV RX6 170 RX1 yX1_kindNumber wsX1_kindNumber) := goodIn_app (goodIn_of _ (by decide +kernel)) ggX6_count_X1_kindNumber
set_option maxRecDepth 20000 in
theorem ggX6_count_X4_kindNumber : GoodIn wsX6_count wsX4_kindNumber := goodIn_r _ [18] (by decide +kernel) (by decide +kernel)
set_option maxRecDepth 20000 in
theorem gX6_count_X4_kindNumber_u170X4 : GoodIn wsX6_count (va_wsO RX6 170 RX4 "RentOrBuy$Flat" ⟨"RentOrBuy$Flat", "kindNumber", "()I"⟩ yX4_kindNumber wsX4_kindNumber) := goodIn_app (goodIn_of _ (by decide +kernel)) ggX6_count_X4_kindNumber
theorem dX6_count_0 : decode cX6_count 0 = .ok (.iload_n 1, 1) := by decide +kernel
theorem dX6_count_1 : decode cX6_count 1 = .ok (.tableswitch 66 0 3 #[31, 39, 50, 58], 31) := by decide +kernel
theorem dX6_count_32 : decode cX6_count 32 = .ok (.aload_n 0, 1) := by decide +kernel
theorem dX6_count_33 : decode cX6_count 33 = .ok (.getfield 10, 3) := by decide +kernel
theorem dX6_count_36 : decode cX6_count 36 = .ok (.getfield 57, 3) := by decide +kernel
theorem dX6_count_39 : decode cX6_count 39 = .ok (.ireturn, 1) := by decide +kernel
theorem dX6_count_40 : decode cX6_count 40 = .ok (.aload_n 0, 1) := by decide +kernel
theorem dX6_count_41 : decode cX6_count 41 = .ok (.getfield 10, 3) := by decide +kernel
theorem dX6_count_44 : decode cX6_count 44 = .ok (.getfield 68, 3) := by decide +kernel
theorem dX6_count_47 : decode cX6_count 47 = .ok (.invokevirtual 170, 3) := by decide +kernel
theorem dX6_count_50 : decode cX6_count 50 = .ok (.ireturn, 1) := by decide +kernel
theorem dX6_count_51 : decode cX6_count 51 = .ok (.aload_n 0, 1) := by decide +kernel
theorem dX6_count_52 : decode cX6_count 52 = .ok (.getfield 26, 3) := by decide +kernel
theorem dX6_count_55 : decode cX6_count 55 = .ok (.getfield 136, 3) := by decide +kernel
theorem dX6_count_58 : decode cX6_count 58 = .ok (.ireturn, 1) := by decide +kernel
theorem dX6_count_59 : decode cX6_count 59 = .ok (.aload_n 0, 1) := by decide +kernel
theorem dX6_count_60 : decode cX6_count 60 = .ok (.getfield 26, 3) := by decide +kernel
theorem dX6_count_63 : decode cX6_count 63 = .ok (.getfield 143, 3) := by decide +kernel
theorem dX6_count_66 : decode cX6_count 66 = .ok (.ireturn, 1) := by decide +kernel
theorem dX6_count_67 : decode cX6_count 67 = .ok (.iconst (-1), 1) := by decide +kernel
theorem dX6_count_68 : decode cX6_count 68 = .ok (.ireturn, 1) := by decide +kernel
theorem dX6_trace_0 : decode cX6_trace 0 = .ok (.aload_n 0, 1) := by decide +kernel
theorem dX6_trace_1 : decode cX6_trace 1 = .ok (.getfield 30, 3) := by decide +kernel
theorem dX6_trace_4 : decode cX6_trace 4 = .ok (.lreturn, 1) := by decide +kernel
theorem dX6_isWithin_0 : decode cX6_isWithin 0 = .ok (.iload_n 1, 1) := by decide +kernel
theorem dX6_isWithin_1 : decode cX6_isWithin 1 = .ok (.iload_n 0, 1) := by decide +kernel
theorem dX6_isWithin_2 : decode cX6_isWithin 2 = .ok (.if_icmp .gt 12, 3) := by decide +kernel
theorem dX6_isWithin_5 : decode cX6_isWithin 5 = .ok (.iload_n 0, 1) := by decide +kernel
theorem dX6_isWithin_6 : decode cX6_isWithin 6 = .ok (.iload_n 2, 1) := by decide +kernel
theorem dX6_isWithin_7 : decode cX6_isWithin 7 = .ok (.if_icmp .gt 7, 3) := by decide +kernel
theorem dX6_isWithin_10 : decode cX6_isWithin 10 = .ok (.iconst 1, 1) := by decide +kernel
theorem dX6_isWithin_11 : decode cX6_isWithin 11 = .ok (.goto 4, 3) := by decide +kernel
theorem dX6_isWithin_14 : decode cX6_isWithin 14 = .ok (.iconst 0, 1) := by decide +kernel
theorem dX6_isWithin_15 : decode cX6_isWithin 15 = .ok (.ireturn, 1) := by decide +kernel
set_option maxRecDepth 20000 in
theorem ggX6_leastForm_X6_commonDivisor : GoodIn wsX6_leastForm wsX6_commonDivisor := goodIn_r _ [4] (by decide +kernel) (by decide +kernel)
set_option maxRecDepth 20000 in
theorem gX6_leastForm_X6_commonDivisor : GoodIn wsX6_leastForm (va_wsS RX6 173 yX6_commonDivisor wsX6_commonDivisor) := goodIn_app (goodIn_of _ (by decide +kernel)) ggX6_leastForm_X6_commonDivisor
set_option maxRecDepth 20000 in
theorem ggX6_leastForm_X6_roundedDown : GoodIn wsX6_leastForm wsX6_roundedDown := goodIn_r _ [7] (by decide +kernel) (by decide +kernel)
set_option maxRecDepth 20000 in
theorem gX6_leastForm_X6_roundedDown : GoodIn wsX6_leastForm (va_wsS RX6 177 yX6_roundedDown wsX6_roundedDown) := goodIn_app (goodIn_of _ (by decide +kernel)) ggX6_leastForm_X6_roundedDown
theorem dX6_leastForm_0 : decode cX6_leastForm 0 = .ok (.iload 4, 2) := by decide +kernel
theorem dX6_leastForm_2 : decode cX6_leastForm 2 = .ok (.ifCond .ne 7, 3) := by decide +kernel
theorem dX6_leastForm_5 : decode cX6_leastForm 5 = .ok (.lload_n 0, 1) := by decide +kernel
theorem dX6_leastForm_6 : decode cX6_leastForm 6 = .ok (.goto 4, 3) := by decide +kernel
theorem dX6_leastForm_9 : decode cX6_leastForm 9 = .ok (.lload_n 2, 1) := by decide +kernel
theorem dX6_leastForm_10 : decode cX6_leastForm 10 = .ok (.lload_n 0, 1) := by decide +kernel
theorem dX6_leastForm_11 : decode cX6_leastForm 11 = .ok (.lload_n 2, 1) := by decide +kernel
theorem dX6_leastForm_12 : decode cX6_leastForm 12 = .ok (.invokestatic 173, 3) := by decide +kernel
theorem dX6_leastForm_15 : decode cX6_leastForm 15 = .ok (.invokestatic 177, 3) := by decide +kernel
theorem dX6_leastForm_18 : decode cX6_leastForm 18 = .ok (.lreturn, 1) := by decide +kernel
theorem dX6_commonDivisor_0 : decode cX6_commonDivisor 0 = .ok (.lload_n 0, 1) := by decide +kernel
theorem dX6_commonDivisor_1 : decode cX6_commonDivisor 1 = .ok (.lstore 4, 2) := by decide +kernel
theorem dX6_commonDivisor_3 : decode cX6_commonDivisor 3 = .ok (.lload_n 2, 1) := by decide +kernel
theorem dX6_commonDivisor_4 : decode cX6_commonDivisor 4 = .ok (.lstore 6, 2) := by decide +kernel
theorem dX6_commonDivisor_6 : decode cX6_commonDivisor 6 = .ok (.iconst 0, 1) := by decide +kernel
theorem dX6_commonDivisor_7 : decode cX6_commonDivisor 7 = .ok (.istore 8, 2) := by decide +kernel
theorem dX6_commonDivisor_9 : decode cX6_commonDivisor 9 = .ok (.iload 8, 2) := by decide +kernel
theorem dX6_commonDivisor_11 : decode cX6_commonDivisor 11 = .ok (.bipush 100, 2) := by decide +kernel
theorem dX6_commonDivisor_13 : decode cX6_commonDivisor 13 = .ok (.if_icmp .ge 31, 3) := by decide +kernel
theorem dX6_commonDivisor_16 : decode cX6_commonDivisor 16 = .ok (.lload 6, 2) := by decide +kernel
theorem dX6_commonDivisor_18 : decode cX6_commonDivisor 18 = .ok (.lconst 0, 1) := by decide +kernel
theorem dX6_commonDivisor_19 : decode cX6_commonDivisor 19 = .ok (.lcmp, 1) := by decide +kernel
theorem dX6_commonDivisor_20 : decode cX6_commonDivisor 20 = .ok (.ifCond .eq 24, 3) := by decide +kernel
theorem dX6_commonDivisor_23 : decode cX6_commonDivisor 23 = .ok (.lload 4, 2) := by decide +kernel
theorem dX6_commonDivisor_25 : decode cX6_commonDivisor 25 = .ok (.lload 6, 2) := by decide +kernel
theorem dX6_commonDivisor_27 : decode cX6_commonDivisor 27 = .ok (.lrem, 1) := by decide +kernel
theorem dX6_commonDivisor_28 : decode cX6_commonDivisor 28 = .ok (.lstore 9, 2) := by decide +kernel
theorem dX6_commonDivisor_30 : decode cX6_commonDivisor 30 = .ok (.lload 6, 2) := by decide +kernel
theorem dX6_commonDivisor_32 : decode cX6_commonDivisor 32 = .ok (.lstore 4, 2) := by decide +kernel
theorem dX6_commonDivisor_34 : decode cX6_commonDivisor 34 = .ok (.lload 9, 2) := by decide +kernel
theorem dX6_commonDivisor_36 : decode cX6_commonDivisor 36 = .ok (.lstore 6, 2) := by decide +kernel
theorem dX6_commonDivisor_38 : decode cX6_commonDivisor 38 = .ok (.iinc 8 1, 3) := by decide +kernel
theorem dX6_commonDivisor_41 : decode cX6_commonDivisor 41 = .ok (.goto (-32), 3) := by decide +kernel
theorem dX6_commonDivisor_44 : decode cX6_commonDivisor 44 = .ok (.lload 4, 2) := by decide +kernel
theorem dX6_commonDivisor_46 : decode cX6_commonDivisor 46 = .ok (.lreturn, 1) := by decide +kernel
theorem dX6_roundedDown_0 : decode cX6_roundedDown 0 = .ok (.lload_n 2, 1) := by decide +kernel
theorem dX6_roundedDown_1 : decode cX6_roundedDown 1 = .ok (.lconst 0, 1) := by decide +kernel
theorem dX6_roundedDown_2 : decode cX6_roundedDown 2 = .ok (.lcmp, 1) := by decide +kernel
theorem dX6_roundedDown_3 : decode cX6_roundedDown 3 = .ok (.ifCond .le 9, 3) := by decide +kernel
theorem dX6_roundedDown_6 : decode cX6_roundedDown 6 = .ok (.lload_n 0, 1) := by decide +kernel
theorem dX6_roundedDown_7 : decode cX6_roundedDown 7 = .ok (.lload_n 2, 1) := by decide +kernel
theorem dX6_roundedDown_8 : decode cX6_roundedDown 8 = .ok (.ldiv, 1) := by decide +kernel
theorem dX6_roundedDown_9 : decode cX6_roundedDown 9 = .ok (.goto 4, 3) := by decide +kernel
theorem dX6_roundedDown_12 : decode cX6_roundedDown 12 = .ok (.lconst 0, 1) := by decide +kernel
theorem dX6_roundedDown_13 : decode cX6_roundedDown 13 = .ok (.lreturn, 1) := by decide +kernel
set_option maxRecDepth 20000 in
theorem ggX6_roundedUp_X6_roundedDown : GoodIn wsX6_roundedUp wsX6_roundedDown := goodIn_r _ [4] (by decide +kernel) (by decide +kernel)
set_option maxRecDepth 20000 in
theorem gX6_roundedUp_X6_roundedDown : GoodIn wsX6_roundedUp (va_wsS RX6 177 yX6_roundedDown wsX6_roundedDown) := goodIn_app (goodIn_of _ (by decide +kernel)) ggX6_roundedUp_X6_roundedDown
theorem dX6_roundedUp_0 : decode cX6_roundedUp 0 = .ok (.lload_n 0, 1) := by decide +kernel
theorem dX6_roundedUp_1 : decode cX6_roundedUp 1 = .ok (.lload_n 2, 1) := by decide +kernel
theorem dX6_roundedUp_2 : decode cX6_roundedUp 2 = .ok (.ladd, 1) := by decide +kernel
theorem dX6_roundedUp_3 : decode cX6_roundedUp 3 = .ok (.lconst 1, 1) := by decide +kernel
theorem dX6_roundedUp_4 : decode cX6_roundedUp 4 = .ok (.lsub, 1) := by decide +kernel
theorem dX6_roundedUp_5 : decode cX6_roundedUp 5 = .ok (.lload_n 2, 1) := by decide +kernel
theorem dX6_roundedUp_6 : decode cX6_roundedUp 6 = .ok (.invokestatic 177, 3) := by decide +kernel
theorem dX6_roundedUp_9 : decode cX6_roundedUp 9 = .ok (.lreturn, 1) := by decide +kernel
theorem dX7_init_0 : decode cX7_init 0 = .ok (.aload_n 0, 1) := by decide +kernel
theorem dX7_init_1 : decode cX7_init 1 = .ok (.invokespecial 1, 3) := by decide +kernel
theorem dX7_init_4 : decode cX7_init 4 = .ok (.aload_n 0, 1) := by decide +kernel
theorem dX7_init_5 : decode cX7_init 5 = .ok (.iconst 1, 1) := by decide +kernel
theorem dX7_init_6 : decode cX7_init 6 = .ok (.putfield 7, 3) := by decide +kernel
theorem dX7_init_9 : decode cX7_init 9 = .ok (.aload_n 0, 1) := by decide +kernel
theorem dX7_init_10 : decode cX7_init 10 = .ok (.sipush 200, 3) := by decide +kernel
theorem dX7_init_13 : decode cX7_init 13 = .ok (.putfield 13, 3) := by decide +kernel
theorem dX7_init_16 : decode cX7_init 16 = .ok (.aload_n 0, 1) := by decide +kernel
theorem dX7_init_17 : decode cX7_init 17 = .ok (.bipush 10, 2) := by decide +kernel
theorem dX7_init_19 : decode cX7_init 19 = .ok (.putfield 16, 3) := by decide +kernel
theorem dX7_init_22 : decode cX7_init 22 = .ok (.aload_n 0, 1) := by decide +kernel
theorem dX7_init_23 : decode cX7_init 23 = .ok (.bipush 20, 2) := by decide +kernel
theorem dX7_init_25 : decode cX7_init 25 = .ok (.putfield 19, 3) := by decide +kernel
theorem dX7_init_28 : decode cX7_init 28 = .ok (.aload_n 0, 1) := by decide +kernel
theorem dX7_init_29 : decode cX7_init 29 = .ok (.bipush 42, 2) := by decide +kernel
theorem dX7_init_31 : decode cX7_init 31 = .ok (.newarray .int, 2) := by decide +kernel
theorem dX7_init_33 : decode cX7_init 33 = .ok (.putfield 22, 3) := by decide +kernel
theorem dX7_init_36 : decode cX7_init 36 = .ok (.aload_n 0, 1) := by decide +kernel
theorem dX7_init_37 : decode cX7_init 37 = .ok (.bipush 42, 2) := by decide +kernel
theorem dX7_init_39 : decode cX7_init 39 = .ok (.newarray .int, 2) := by decide +kernel
theorem dX7_init_41 : decode cX7_init 41 = .ok (.putfield 26, 3) := by decide +kernel
theorem dX7_init_44 : decode cX7_init 44 = .ok (.aload_n 0, 1) := by decide +kernel
theorem dX7_init_45 : decode cX7_init 45 = .ok (.iconst 3, 1) := by decide +kernel
theorem dX7_init_46 : decode cX7_init 46 = .ok (.putfield 29, 3) := by decide +kernel
theorem dX7_init_49 : decode cX7_init 49 = .ok (.aload_n 0, 1) := by decide +kernel
theorem dX7_init_50 : decode cX7_init 50 = .ok (.bipush 16, 2) := by decide +kernel
theorem dX7_init_52 : decode cX7_init 52 = .ok (.newarray .int, 2) := by decide +kernel
theorem dX7_init_54 : decode cX7_init 54 = .ok (.putfield 32, 3) := by decide +kernel
theorem dX7_init_57 : decode cX7_init 57 = .ok (.aload_n 0, 1) := by decide +kernel
theorem dX7_init_58 : decode cX7_init 58 = .ok (.iconst 4, 1) := by decide +kernel
theorem dX7_init_59 : decode cX7_init 59 = .ok (.newarray .int, 2) := by decide +kernel
theorem dX7_init_61 : decode cX7_init 61 = .ok (.putfield 35, 3) := by decide +kernel
theorem dX7_init_64 : decode cX7_init 64 = .ok (.aload_n 0, 1) := by decide +kernel
theorem dX7_init_65 : decode cX7_init 65 = .ok (.bipush 96, 2) := by decide +kernel
theorem dX7_init_67 : decode cX7_init 67 = .ok (.newarray .int, 2) := by decide +kernel
theorem dX7_init_69 : decode cX7_init 69 = .ok (.putfield 38, 3) := by decide +kernel
theorem dX7_init_72 : decode cX7_init 72 = .ok (.aload_n 0, 1) := by decide +kernel
theorem dX7_init_73 : decode cX7_init 73 = .ok (.bipush 24, 2) := by decide +kernel
theorem dX7_init_75 : decode cX7_init 75 = .ok (.newarray .int, 2) := by decide +kernel
theorem dX7_init_77 : decode cX7_init 77 = .ok (.putfield 41, 3) := by decide +kernel
theorem dX7_init_80 : decode cX7_init 80 = .ok (.aload_n 0, 1) := by decide +kernel
theorem dX7_init_81 : decode cX7_init 81 = .ok (.bipush 24, 2) := by decide +kernel
theorem dX7_init_83 : decode cX7_init 83 = .ok (.newarray .int, 2) := by decide +kernel
theorem dX7_init_85 : decode cX7_init 85 = .ok (.putfield 44, 3) := by decide +kernel
theorem dX7_init_88 : decode cX7_init 88 = .ok (.aload_n 0, 1) := by decide +kernel
theorem dX7_init_89 : decode cX7_init 89 = .ok (.sipush 576, 3) := by decide +kernel
theorem dX7_init_92 : decode cX7_init 92 = .ok (.newarray .int, 2) := by decide +kernel
theorem dX7_init_94 : decode cX7_init 94 = .ok (.putfield 47, 3) := by decide +kernel
theorem dX7_init_97 : decode cX7_init 97 = .ok (.aload_n 0, 1) := by decide +kernel
theorem dX7_init_98 : decode cX7_init 98 = .ok (.iconst 0, 1) := by decide +kernel
theorem dX7_init_99 : decode cX7_init 99 = .ok (.putfield 50, 3) := by decide +kernel
theorem dX7_init_102 : decode cX7_init 102 = .ok (.return_, 1) := by decide +kernel
theorem dX7_in_0 : decode cX7_in 0 = .ok (.iload_n 0, 1) := by decide +kernel
theorem dX7_in_1 : decode cX7_in 1 = .ok (.iload_n 1, 1) := by decide +kernel
theorem dX7_in_2 : decode cX7_in 2 = .ok (.if_icmp .lt 12, 3) := by decide +kernel
theorem dX7_in_5 : decode cX7_in 5 = .ok (.iload_n 0, 1) := by decide +kernel
theorem dX7_in_6 : decode cX7_in 6 = .ok (.iload_n 2, 1) := by decide +kernel
theorem dX7_in_7 : decode cX7_in 7 = .ok (.if_icmp .gt 7, 3) := by decide +kernel
theorem dX7_in_10 : decode cX7_in 10 = .ok (.iconst 1, 1) := by decide +kernel
theorem dX7_in_11 : decode cX7_in 11 = .ok (.goto 4, 3) := by decide +kernel
theorem dX7_in_14 : decode cX7_in 14 = .ok (.iconst 0, 1) := by decide +kernel
theorem dX7_in_15 : decode cX7_in 15 = .ok (.ireturn, 1) := by decide +kernel
theorem dX7_rentOf_0 : decode cX7_rentOf 0 = .ok (.aload_n 0, 1) := by decide +kernel
theorem dX7_rentOf_1 : decode cX7_rentOf 1 = .ok (.getfield 7, 3) := by decide +kernel
theorem dX7_rentOf_4 : decode cX7_rentOf 4 = .ok (.aload_n 0, 1) := by decide +kernel
theorem dX7_rentOf_5 : decode cX7_rentOf 5 = .ok (.getfield 53, 3) := by decide +kernel
theorem dX7_rentOf_8 : decode cX7_rentOf 8 = .ok (.ifCond .le 14, 3) := by decide +kernel
theorem dX7_rentOf_11 : decode cX7_rentOf 11 = .ok (.aload_n 0, 1) := by decide +kernel
theorem dX7_rentOf_12 : decode cX7_rentOf 12 = .ok (.getfield 56, 3) := by decide +kernel
theorem dX7_rentOf_15 : decode cX7_rentOf 15 = .ok (.iload_n 1, 1) := by decide +kernel
theorem dX7_rentOf_16 : decode cX7_rentOf 16 = .ok (.iconst 1, 1) := by decide +kernel
theorem dX7_rentOf_17 : decode cX7_rentOf 17 = .ok (.isub, 1) := by decide +kernel
theorem dX7_rentOf_18 : decode cX7_rentOf 18 = .ok (.imul, 1) := by decide +kernel
theorem dX7_rentOf_19 : decode cX7_rentOf 19 = .ok (.goto 4, 3) := by decide +kernel
theorem dX7_rentOf_22 : decode cX7_rentOf 22 = .ok (.iconst 0, 1) := by decide +kernel
theorem dX7_rentOf_23 : decode cX7_rentOf 23 = .ok (.iadd, 1) := by decide +kernel
theorem dX7_rentOf_24 : decode cX7_rentOf 24 = .ok (.istore_n 2, 1) := by decide +kernel
theorem dX7_rentOf_25 : decode cX7_rentOf 25 = .ok (.aload_n 0, 1) := by decide +kernel
theorem dX7_rentOf_26 : decode cX7_rentOf 26 = .ok (.getfield 53, 3) := by decide +kernel
theorem dX7_rentOf_29 : decode cX7_rentOf 29 = .ok (.iconst 2, 1) := by decide +kernel
theorem dX7_rentOf_30 : decode cX7_rentOf 30 = .ok (.if_icmp .ne 18, 3) := by decide +kernel
theorem dX7_rentOf_33 : decode cX7_rentOf 33 = .ok (.iload_n 2, 1) := by decide +kernel
theorem dX7_rentOf_34 : decode cX7_rentOf 34 = .ok (.aload_n 0, 1) := by decide +kernel
theorem dX7_rentOf_35 : decode cX7_rentOf 35 = .ok (.getfield 13, 3) := by decide +kernel
theorem dX7_rentOf_38 : decode cX7_rentOf 38 = .ok (.if_icmp .le 10, 3) := by decide +kernel
theorem dX7_rentOf_41 : decode cX7_rentOf 41 = .ok (.aload_n 0, 1) := by decide +kernel
theorem dX7_rentOf_42 : decode cX7_rentOf 42 = .ok (.getfield 13, 3) := by decide +kernel
theorem dX7_rentOf_45 : decode cX7_rentOf 45 = .ok (.goto 4, 3) := by decide +kernel
theorem dX7_rentOf_48 : decode cX7_rentOf 48 = .ok (.iload_n 2, 1) := by decide +kernel
theorem dX7_rentOf_49 : decode cX7_rentOf 49 = .ok (.ireturn, 1) := by decide +kernel
set_option maxRecDepth 20000 in
theorem ggX7_rentsTo_X7_rentOf : GoodIn wsX7_rentsTo wsX7_rentOf := goodIn_r _ [5, 6, 7, 8, 9, 10, 11, 12, 13, 14, 15, 16, 17, 18, 19, 20, 21, 22, 23, 24, 25, 26, 27] (by decide +kernel) (by decide +kernel)
set_option maxRecDepth 20000 in
theorem gX7_rentsTo_X7_rentOf : GoodIn wsX7_rentsTo (wsV RX7 59 RX7 yX7_rentOf wsX7_rentOf) := goodIn_app (goodIn_of _ (by decide +kernel)) ggX7_rentsTo_X7_rentOf
theorem dX7_rentsTo_0 : decode cX7_rentsTo 0 = .ok (.iconst 0, 1) := by decide +kernel
theorem dX7_rentsTo_1 : decode cX7_rentsTo 1 = .ok (.istore_n 2, 1) := by decide +kernel
theorem dX7_rentsTo_2 : decode cX7_rentsTo 2 = .ok (.iconst 1, 1) := by decide +kernel
theorem dX7_rentsTo_3 : decode cX7_rentsTo 3 = .ok (.istore_n 3, 1) := by decide +kernel
theorem dX7_rentsTo_4 : decode cX7_rentsTo 4 = .ok (.iload_n 3, 1) := by decide +kernel
theorem dX7_rentsTo_5 : decode cX7_rentsTo 5 = .ok (.iload_n 1, 1) := by decide +kernel
theorem dX7_rentsTo_6 : decode cX7_rentsTo 6 = .ok (.if_icmp .gt 17, 3) := by decide +kernel
theorem dX7_rentsTo_9 : decode cX7_rentsTo 9 = .ok (.iload_n 2, 1) := by decide +kernel
theorem dX7_rentsTo_10 : decode cX7_rentsTo 10 = .ok (.aload_n 0, 1) := by decide +kernel
theorem dX7_rentsTo_11 : decode cX7_rentsTo 11 = .ok (.iload_n 3, 1) := by decide +kernel
theorem dX7_rentsTo_12 : decode cX7_rentsTo 12 = .ok (.invokevirtual 59, 3) := by decide +kernel
theorem dX7_rentsTo_15 : decode cX7_rentsTo 15 = .ok (.iadd, 1) := by decide +kernel
theorem dX7_rentsTo_16 : decode cX7_rentsTo 16 = .ok (.istore_n 2, 1) := by decide +kernel
theorem dX7_rentsTo_17 : decode cX7_rentsTo 17 = .ok (.iinc 3 1, 3) := by decide +kernel
theorem dX7_rentsTo_20 : decode cX7_rentsTo 20 = .ok (.goto (-16), 3) := by decide +kernel
theorem dX7_rentsTo_23 : decode cX7_rentsTo 23 = .ok (.iload_n 2, 1) := by decide +kernel
theorem dX7_rentsTo_24 : decode cX7_rentsTo 24 = .ok (.ireturn, 1) := by decide +kernel
set_option maxRecDepth 20000 in
theorem ggX7_costOf_X7_rentsTo : GoodIn wsX7_costOf wsX7_rentsTo := goodIn_r _ [6, 7, 8, 9, 5, 10, 11, 12, 13, 14, 15, 16, 17, 18, 19, 20, 21, 22, 23, 24, 25, 26, 27, 28, 29, 30, 31, 32] (by decide +kernel) (by decide +kernel)
set_option maxRecDepth 20000 in
theorem gX7_costOf_X7_rentsTo : GoodIn wsX7_costOf (wsV RX7 63 RX7 yX7_rentsTo wsX7_rentsTo) := goodIn_app (goodIn_of _ (by decide +kernel)) ggX7_costOf_X7_rentsTo
theorem dX7_costOf_0 : decode cX7_costOf 0 = .ok (.iload_n 1, 1) := by decide +kernel
theorem dX7_costOf_1 : decode cX7_costOf 1 = .ok (.iload_n 2, 1) := by decide +kernel
theorem dX7_costOf_2 : decode cX7_costOf 2 = .ok (.if_icmp .gt 18, 3) := by decide +kernel
theorem dX7_costOf_5 : decode cX7_costOf 5 = .ok (.aload_n 0, 1) := by decide +kernel
theorem dX7_costOf_6 : decode cX7_costOf 6 = .ok (.iload_n 1, 1) := by decide +kernel
theorem dX7_costOf_7 : decode cX7_costOf 7 = .ok (.iconst 1, 1) := by decide +kernel
theorem dX7_costOf_8 : decode cX7_costOf 8 = .ok (.isub, 1) := by decide +kernel
theorem dX7_costOf_9 : decode cX7_costOf 9 = .ok (.invokevirtual 63, 3) := by decide +kernel
theorem dX7_costOf_12 : decode cX7_costOf 12 = .ok (.aload_n 0, 1) := by decide +kernel
theorem dX7_costOf_13 : decode cX7_costOf 13 = .ok (.getfield 16, 3) := by decide +kernel
theorem dX7_costOf_16 : decode cX7_costOf 16 = .ok (.iadd, 1) := by decide +kernel
theorem dX7_costOf_17 : decode cX7_costOf 17 = .ok (.goto 8, 3) := by decide +kernel
theorem dX7_costOf_20 : decode cX7_costOf 20 = .ok (.aload_n 0, 1) := by decide +kernel
theorem dX7_costOf_21 : decode cX7_costOf 21 = .ok (.iload_n 2, 1) := by decide +kernel
theorem dX7_costOf_22 : decode cX7_costOf 22 = .ok (.invokevirtual 63, 3) := by decide +kernel
theorem dX7_costOf_25 : decode cX7_costOf 25 = .ok (.ireturn, 1) := by decide +kernel
set_option maxRecDepth 20000 in
theorem ggX7_knownBy_X7_rentsTo : GoodIn wsX7_knownBy wsX7_rentsTo := goodIn_r _ [6, 7, 8, 9, 5, 10, 11, 12, 13, 14, 15, 16, 17, 18, 19, 20, 21, 22, 23, 24, 25, 26, 27, 28, 29, 30, 31, 32] (by decide +kernel) (by decide +kernel)
set_option maxRecDepth 20000 in
theorem gX7_knownBy_X7_rentsTo : GoodIn wsX7_knownBy (wsV RX7 63 RX7 yX7_rentsTo wsX7_rentsTo) := goodIn_app (goodIn_of _ (by decide +kernel)) ggX7_knownBy_X7_rentsTo
theorem dX7_knownBy_0 : decode cX7_knownBy 0 = .ok (.aload_n 0, 1) := by decide +kernel
theorem dX7_knownBy_1 : decode cX7_knownBy 1 = .ok (.iload_n 1, 1) := by decide +kernel
theorem dX7_knownBy_2 : decode cX7_knownBy 2 = .ok (.invokevirtual 63, 3) := by decide +kernel
theorem dX7_knownBy_5 : decode cX7_knownBy 5 = .ok (.istore_n 2, 1) := by decide +kernel
theorem dX7_knownBy_6 : decode cX7_knownBy 6 = .ok (.aload_n 0, 1) := by decide +kernel
theorem dX7_knownBy_7 : decode cX7_knownBy 7 = .ok (.getfield 16, 3) := by decide +kernel
theorem dX7_knownBy_10 : decode cX7_knownBy 10 = .ok (.iload_n 2, 1) := by decide +kernel
theorem dX7_knownBy_11 : decode cX7_knownBy 11 = .ok (.if_icmp .ge 10, 3) := by decide +kernel
theorem dX7_knownBy_14 : decode cX7_knownBy 14 = .ok (.aload_n 0, 1) := by decide +kernel
theorem dX7_knownBy_15 : decode cX7_knownBy 15 = .ok (.getfield 16, 3) := by decide +kernel
theorem dX7_knownBy_18 : decode cX7_knownBy 18 = .ok (.goto 4, 3) := by decide +kernel
theorem dX7_knownBy_21 : decode cX7_knownBy 21 = .ok (.iload_n 2, 1) := by decide +kernel
theorem dX7_knownBy_22 : decode cX7_knownBy 22 = .ok (.ireturn, 1) := by decide +kernel
set_option maxRecDepth 20000 in
theorem ggX7_offer_X7_in : GoodIn wsX7_offer wsX7_in := goodIn_r _ [10] (by decide +kernel) (by decide +kernel)
set_option maxRecDepth 20000 in
theorem gX7_offer_X7_in : GoodIn wsX7_offer (va_wsS RX7 66 yX7_in wsX7_in) := goodIn_app (goodIn_of _ (by decide +kernel)) ggX7_offer_X7_in
set_option maxRecDepth 20000 in
theorem ggX7_offer_X7_knownBy : GoodIn wsX7_offer wsX7_knownBy := goodIn_r _ [14, 5, 15, 16, 17, 9, 18, 19, 20, 21, 22, 2, 1, 3, 4, 23, 24, 25, 26, 27, 28, 29, 30, 31, 32, 33, 34, 35, 36, 37, 38, 39, 40] (by decide +kernel) (by decide +kernel)
set_option maxRecDepth 20000 in
theorem gX7_offer_X7_knownBy : GoodIn wsX7_offer (wsV RX7 70 RX7 yX7_knownBy wsX7_knownBy) := goodIn_app (goodIn_of _ (by decide +kernel)) ggX7_offer_X7_knownBy
theorem dX7_offer_0 : decode cX7_offer 0 = .ok (.iload_n 1, 1) := by decide +kernel
theorem dX7_offer_1 : decode cX7_offer 1 = .ok (.iconst 0, 1) := by decide +kernel
theorem dX7_offer_2 : decode cX7_offer 2 = .ok (.iconst 2, 1) := by decide +kernel
theorem dX7_offer_3 : decode cX7_offer 3 = .ok (.invokestatic 66, 3) := by decide +kernel
theorem dX7_offer_6 : decode cX7_offer 6 = .ok (.ifCond .eq 56, 3) := by decide +kernel
theorem dX7_offer_9 : decode cX7_offer 9 = .ok (.iload_n 2, 1) := by decide +kernel
theorem dX7_offer_10 : decode cX7_offer 10 = .ok (.iconst 1, 1) := by decide +kernel
theorem dX7_offer_11 : decode cX7_offer 11 = .ok (.bipush 50, 2) := by decide +kernel
theorem dX7_offer_13 : decode cX7_offer 13 = .ok (.invokestatic 66, 3) := by decide +kernel
theorem dX7_offer_16 : decode cX7_offer 16 = .ok (.ifCond .eq 46, 3) := by decide +kernel
theorem dX7_offer_19 : decode cX7_offer 19 = .ok (.iload_n 1, 1) := by decide +kernel
theorem dX7_offer_20 : decode cX7_offer 20 = .ok (.ifCond .le 13, 3) := by decide +kernel
theorem dX7_offer_23 : decode cX7_offer 23 = .ok (.iload_n 3, 1) := by decide +kernel
theorem dX7_offer_24 : decode cX7_offer 24 = .ok (.iconst 0, 1) := by decide +kernel
theorem dX7_offer_25 : decode cX7_offer 25 = .ok (.bipush 20, 2) := by decide +kernel
theorem dX7_offer_27 : decode cX7_offer 27 = .ok (.invokestatic 66, 3) := by decide +kernel
theorem dX7_offer_30 : decode cX7_offer 30 = .ok (.ifCond .eq 32, 3) := by decide +kernel
theorem dX7_offer_33 : decode cX7_offer 33 = .ok (.iload_n 1, 1) := by decide +kernel
theorem dX7_offer_34 : decode cX7_offer 34 = .ok (.iconst 2, 1) := by decide +kernel
theorem dX7_offer_35 : decode cX7_offer 35 = .ok (.if_icmp .ne 15, 3) := by decide +kernel
theorem dX7_offer_38 : decode cX7_offer 38 = .ok (.iload 4, 2) := by decide +kernel
theorem dX7_offer_40 : decode cX7_offer 40 = .ok (.iconst 1, 1) := by decide +kernel
theorem dX7_offer_41 : decode cX7_offer 41 = .ok (.sipush 200, 3) := by decide +kernel
theorem dX7_offer_44 : decode cX7_offer 44 = .ok (.invokestatic 66, 3) := by decide +kernel
theorem dX7_offer_47 : decode cX7_offer 47 = .ok (.ifCond .eq 15, 3) := by decide +kernel
theorem dX7_offer_50 : decode cX7_offer 50 = .ok (.iload 5, 2) := by decide +kernel
theorem dX7_offer_52 : decode cX7_offer 52 = .ok (.iconst 1, 1) := by decide +kernel
theorem dX7_offer_53 : decode cX7_offer 53 = .ok (.sipush 500, 3) := by decide +kernel
theorem dX7_offer_56 : decode cX7_offer 56 = .ok (.invokestatic 66, 3) := by decide +kernel
theorem dX7_offer_59 : decode cX7_offer 59 = .ok (.ifCond .ne 5, 3) := by decide +kernel
theorem dX7_offer_62 : decode cX7_offer 62 = .ok (.iconst (-1), 1) := by decide +kernel
theorem dX7_offer_63 : decode cX7_offer 63 = .ok (.ireturn, 1) := by decide +kernel
theorem dX7_offer_64 : decode cX7_offer 64 = .ok (.aload_n 0, 1) := by decide +kernel
theorem dX7_offer_65 : decode cX7_offer 65 = .ok (.iload_n 1, 1) := by decide +kernel
theorem dX7_offer_66 : decode cX7_offer 66 = .ok (.putfield 53, 3) := by decide +kernel
theorem dX7_offer_69 : decode cX7_offer 69 = .ok (.aload_n 0, 1) := by decide +kernel
theorem dX7_offer_70 : decode cX7_offer 70 = .ok (.iload_n 2, 1) := by decide +kernel
theorem dX7_offer_71 : decode cX7_offer 71 = .ok (.putfield 7, 3) := by decide +kernel
theorem dX7_offer_74 : decode cX7_offer 74 = .ok (.aload_n 0, 1) := by decide +kernel
theorem dX7_offer_75 : decode cX7_offer 75 = .ok (.iload_n 3, 1) := by decide +kernel
theorem dX7_offer_76 : decode cX7_offer 76 = .ok (.putfield 56, 3) := by decide +kernel
theorem dX7_offer_79 : decode cX7_offer 79 = .ok (.aload_n 0, 1) := by decide +kernel
theorem dX7_offer_80 : decode cX7_offer 80 = .ok (.iload 4, 2) := by decide +kernel
theorem dX7_offer_82 : decode cX7_offer 82 = .ok (.putfield 13, 3) := by decide +kernel
theorem dX7_offer_85 : decode cX7_offer 85 = .ok (.aload_n 0, 1) := by decide +kernel
theorem dX7_offer_86 : decode cX7_offer 86 = .ok (.iload 5, 2) := by decide +kernel
theorem dX7_offer_88 : decode cX7_offer 88 = .ok (.putfield 16, 3) := by decide +kernel
theorem dX7_offer_91 : decode cX7_offer 91 = .ok (.aload_n 0, 1) := by decide +kernel
theorem dX7_offer_92 : decode cX7_offer 92 = .ok (.aload_n 0, 1) := by decide +kernel
theorem dX7_offer_93 : decode cX7_offer 93 = .ok (.getfield 19, 3) := by decide +kernel
theorem dX7_offer_96 : decode cX7_offer 96 = .ok (.invokevirtual 70, 3) := by decide +kernel
theorem dX7_offer_99 : decode cX7_offer 99 = .ok (.ireturn, 1) := by decide +kernel
set_option maxRecDepth 20000 in
theorem ggX7_ends_X7_in : GoodIn wsX7_ends wsX7_in := goodIn_r _ [7] (by decide +kernel) (by decide +kernel)
set_option maxRecDepth 20000 in
theorem gX7_ends_X7_in : GoodIn wsX7_ends (va_wsS RX7 66 yX7_in wsX7_in) := goodIn_app (goodIn_of _ (by decide +kernel)) ggX7_ends_X7_in
theorem dX7_ends_0 : decode cX7_ends 0 = .ok (.iload_n 1, 1) := by decide +kernel
theorem dX7_ends_1 : decode cX7_ends 1 = .ok (.iconst 1, 1) := by decide +kernel
theorem dX7_ends_2 : decode cX7_ends 2 = .ok (.bipush 40, 2) := by decide +kernel
theorem dX7_ends_4 : decode cX7_ends 4 = .ok (.invokestatic 66, 3) := by decide +kernel
theorem dX7_ends_7 : decode cX7_ends 7 = .ok (.ifCond .ne 5, 3) := by decide +kernel
theorem dX7_ends_10 : decode cX7_ends 10 = .ok (.iconst (-1), 1) := by decide +kernel
theorem dX7_ends_11 : decode cX7_ends 11 = .ok (.ireturn, 1) := by decide +kernel
theorem dX7_ends_12 : decode cX7_ends 12 = .ok (.aload_n 0, 1) := by decide +kernel
theorem dX7_ends_13 : decode cX7_ends 13 = .ok (.getfield 19, 3) := by decide +kernel
theorem dX7_ends_16 : decode cX7_ends 16 = .ok (.istore_n 2, 1) := by decide +kernel
theorem dX7_ends_17 : decode cX7_ends 17 = .ok (.aload_n 0, 1) := by decide +kernel
theorem dX7_ends_18 : decode cX7_ends 18 = .ok (.iload_n 1, 1) := by decide +kernel
theorem dX7_ends_19 : decode cX7_ends 19 = .ok (.putfield 19, 3) := by decide +kernel
theorem dX7_ends_22 : decode cX7_ends 22 = .ok (.iconst 0, 1) := by decide +kernel
theorem dX7_ends_23 : decode cX7_ends 23 = .ok (.istore_n 3, 1) := by decide +kernel
theorem dX7_ends_24 : decode cX7_ends 24 = .ok (.iload_n 3, 1) := by decide +kernel
theorem dX7_ends_25 : decode cX7_ends 25 = .ok (.bipush 42, 2) := by decide +kernel
theorem dX7_ends_27 : decode cX7_ends 27 = .ok (.if_icmp .ge 23, 3) := by decide +kernel
theorem dX7_ends_30 : decode cX7_ends 30 = .ok (.aload_n 0, 1) := by decide +kernel
theorem dX7_ends_31 : decode cX7_ends 31 = .ok (.getfield 22, 3) := by decide +kernel
theorem dX7_ends_34 : decode cX7_ends 34 = .ok (.iload_n 3, 1) := by decide +kernel
theorem dX7_ends_35 : decode cX7_ends 35 = .ok (.iconst 0, 1) := by decide +kernel
theorem dX7_ends_36 : decode cX7_ends 36 = .ok (.iastore, 1) := by decide +kernel
theorem dX7_ends_37 : decode cX7_ends 37 = .ok (.aload_n 0, 1) := by decide +kernel
theorem dX7_ends_38 : decode cX7_ends 38 = .ok (.getfield 26, 3) := by decide +kernel
theorem dX7_ends_41 : decode cX7_ends 41 = .ok (.iload_n 3, 1) := by decide +kernel
theorem dX7_ends_42 : decode cX7_ends 42 = .ok (.iconst 0, 1) := by decide +kernel
theorem dX7_ends_43 : decode cX7_ends 43 = .ok (.iastore, 1) := by decide +kernel
theorem dX7_ends_44 : decode cX7_ends 44 = .ok (.iinc 3 1, 3) := by decide +kernel
theorem dX7_ends_47 : decode cX7_ends 47 = .ok (.goto (-23), 3) := by decide +kernel
theorem dX7_ends_50 : decode cX7_ends 50 = .ok (.iload_n 2, 1) := by decide +kernel
theorem dX7_ends_51 : decode cX7_ends 51 = .ok (.ireturn, 1) := by decide +kernel
set_option maxRecDepth 20000 in
theorem ggX7_rent_X7_in : GoodIn wsX7_rent wsX7_in := goodIn_r _ [8] (by decide +kernel) (by decide +kernel)
set_option maxRecDepth 20000 in
theorem gX7_rent_X7_in : GoodIn wsX7_rent (va_wsS RX7 66 yX7_in wsX7_in) := goodIn_app (goodIn_of _ (by decide +kernel)) ggX7_rent_X7_in
set_option maxRecDepth 20000 in
theorem ggX7_rent_X7_rentOf : GoodIn wsX7_rent wsX7_rentOf := goodIn_r _ [12, 13, 2, 14, 15, 16, 17, 18, 19, 20, 21, 22, 23, 24, 25, 26, 27, 28, 29, 30, 31, 32, 33] (by decide +kernel) (by decide +kernel)
set_option maxRecDepth 20000 in
theorem gX7_rent_X7_rentOf : GoodIn wsX7_rent (wsV RX7 59 RX7 yX7_rentOf wsX7_rentOf) := goodIn_app (goodIn_of _ (by decide +kernel)) ggX7_rent_X7_rentOf
theorem dX7_rent_0 : decode cX7_rent 0 = .ok (.iload_n 1, 1) := by decide +kernel
theorem dX7_rent_1 : decode cX7_rent 1 = .ok (.iconst 1, 1) := by decide +kernel
theorem dX7_rent_2 : decode cX7_rent 2 = .ok (.bipush 40, 2) := by decide +kernel
theorem dX7_rent_4 : decode cX7_rent 4 = .ok (.invokestatic 66, 3) := by decide +kernel
theorem dX7_rent_7 : decode cX7_rent 7 = .ok (.ifCond .ne 5, 3) := by decide +kernel
theorem dX7_rent_10 : decode cX7_rent 10 = .ok (.iconst (-1), 1) := by decide +kernel
theorem dX7_rent_11 : decode cX7_rent 11 = .ok (.ireturn, 1) := by decide +kernel
theorem dX7_rent_12 : decode cX7_rent 12 = .ok (.aload_n 0, 1) := by decide +kernel
theorem dX7_rent_13 : decode cX7_rent 13 = .ok (.dup, 1) := by decide +kernel
theorem dX7_rent_14 : decode cX7_rent 14 = .ok (.getfield 73, 3) := by decide +kernel
theorem dX7_rent_17 : decode cX7_rent 17 = .ok (.aload_n 0, 1) := by decide +kernel
theorem dX7_rent_18 : decode cX7_rent 18 = .ok (.getfield 53, 3) := by decide +kernel
theorem dX7_rent_21 : decode cX7_rent 21 = .ok (.ifCond .ne 7, 3) := by decide +kernel
theorem dX7_rent_24 : decode cX7_rent 24 = .ok (.lconst 1, 1) := by decide +kernel
theorem dX7_rent_25 : decode cX7_rent 25 = .ok (.goto 20, 3) := by decide +kernel
theorem dX7_rent_28 : decode cX7_rent 28 = .ok (.aload_n 0, 1) := by decide +kernel
theorem dX7_rent_29 : decode cX7_rent 29 = .ok (.getfield 53, 3) := by decide +kernel
theorem dX7_rent_32 : decode cX7_rent 32 = .ok (.iconst 1, 1) := by decide +kernel
theorem dX7_rent_33 : decode cX7_rent 33 = .ok (.if_icmp .ne 9, 3) := by decide +kernel
theorem dX7_rent_36 : decode cX7_rent 36 = .ok (.ldc2_w 77, 3) := by decide +kernel
theorem dX7_rent_39 : decode cX7_rent 39 = .ok (.goto 6, 3) := by decide +kernel
theorem dX7_rent_42 : decode cX7_rent 42 = .ok (.ldc2_w 79, 3) := by decide +kernel
theorem dX7_rent_45 : decode cX7_rent 45 = .ok (.ladd, 1) := by decide +kernel
theorem dX7_rent_46 : decode cX7_rent 46 = .ok (.putfield 73, 3) := by decide +kernel
theorem dX7_rent_49 : decode cX7_rent 49 = .ok (.aload_n 0, 1) := by decide +kernel
theorem dX7_rent_50 : decode cX7_rent 50 = .ok (.iload_n 1, 1) := by decide +kernel
theorem dX7_rent_51 : decode cX7_rent 51 = .ok (.invokevirtual 59, 3) := by decide +kernel
theorem dX7_rent_54 : decode cX7_rent 54 = .ok (.ireturn, 1) := by decide +kernel
set_option maxRecDepth 20000 in
theorem ggX7_isPlan_X7_in : GoodIn wsX7_isPlan wsX7_in := goodIn_r _ [5] (by decide +kernel) (by decide +kernel)
set_option maxRecDepth 20000 in
theorem gX7_isPlan_X7_in : GoodIn wsX7_isPlan (va_wsS RX7 66 yX7_in wsX7_in) := goodIn_app (goodIn_of _ (by decide +kernel)) ggX7_isPlan_X7_in
theorem dX7_isPlan_0 : decode cX7_isPlan 0 = .ok (.iload_n 1, 1) := by decide +kernel
theorem dX7_isPlan_1 : decode cX7_isPlan 1 = .ok (.iconst 1, 1) := by decide +kernel
theorem dX7_isPlan_2 : decode cX7_isPlan 2 = .ok (.aload_n 0, 1) := by decide +kernel
theorem dX7_isPlan_3 : decode cX7_isPlan 3 = .ok (.getfield 19, 3) := by decide +kernel
theorem dX7_isPlan_6 : decode cX7_isPlan 6 = .ok (.iconst 1, 1) := by decide +kernel
theorem dX7_isPlan_7 : decode cX7_isPlan 7 = .ok (.iadd, 1) := by decide +kernel
theorem dX7_isPlan_8 : decode cX7_isPlan 8 = .ok (.invokestatic 66, 3) := by decide +kernel
theorem dX7_isPlan_11 : decode cX7_isPlan 11 = .ok (.ireturn, 1) := by decide +kernel
set_option maxRecDepth 20000 in
theorem ggX7_isEnd_X7_in : GoodIn wsX7_isEnd wsX7_in := goodIn_r _ [5] (by decide +kernel) (by decide +kernel)
set_option maxRecDepth 20000 in
theorem gX7_isEnd_X7_in : GoodIn wsX7_isEnd (va_wsS RX7 66 yX7_in wsX7_in) := goodIn_app (goodIn_of _ (by decide +kernel)) ggX7_isEnd_X7_in
theorem dX7_isEnd_0 : decode cX7_isEnd 0 = .ok (.iload_n 1, 1) := by decide +kernel
theorem dX7_isEnd_1 : decode cX7_isEnd 1 = .ok (.iconst 1, 1) := by decide +kernel
theorem dX7_isEnd_2 : decode cX7_isEnd 2 = .ok (.aload_n 0, 1) := by decide +kernel
theorem dX7_isEnd_3 : decode cX7_isEnd 3 = .ok (.getfield 19, 3) := by decide +kernel
theorem dX7_isEnd_6 : decode cX7_isEnd 6 = .ok (.invokestatic 66, 3) := by decide +kernel
theorem dX7_isEnd_9 : decode cX7_isEnd 9 = .ok (.ireturn, 1) := by decide +kernel
set_option maxRecDepth 20000 in
theorem ggX7_cost_X7_isPlan : GoodIn wsX7_cost wsX7_isPlan := goodIn_r _ [5, 6, 7, 8, 4, 9, 31, 32, 33, 34, 35, 36, 37, 38, 39, 40, 41, 42, 43, 44, 45, 46, 47, 48] (by decide +kernel) (by decide +kernel)
set_option maxRecDepth 20000 in
theorem gX7_cost_X7_isPlan : GoodIn wsX7_cost (wsV RX7 81 RX7 yX7_isPlan wsX7_isPlan) := goodIn_app (goodIn_of _ (by decide +kernel)) ggX7_cost_X7_isPlan
set_option maxRecDepth 20000 in
theorem ggX7_cost_X7_isEnd : GoodIn wsX7_cost wsX7_isEnd := goodIn_r _ [13, 6, 7, 8, 4, 9, 31, 32, 33, 34, 35, 36, 37, 38, 39, 40, 41, 42, 43, 44, 45, 46, 47, 48] (by decide +kernel) (by decide +kernel)
set_option maxRecDepth 20000 in
theorem gX7_cost_X7_isEnd : GoodIn wsX7_cost (wsV RX7 85 RX7 yX7_isEnd wsX7_isEnd) := goodIn_app (goodIn_of _ (by decide +kernel)) ggX7_cost_X7_isEnd
set_option maxRecDepth 20000 in
theorem ggX7_cost_X7_costOf : GoodIn wsX7_cost wsX7_costOf := goodIn_r _ [17, 18, 19, 20, 21, 4, 22, 23, 24, 25, 26, 27, 28, 29, 30, 31, 32, 33, 34, 35, 36, 37, 38, 39, 40, 41, 42, 43, 44, 45, 46, 47, 48] (by decide +kernel) (by decide +kernel)
set_option maxRecDepth 20000 in
theorem gX7_cost_X7_costOf : GoodIn wsX7_cost (wsV RX7 88 RX7 yX7_costOf wsX7_costOf) := goodIn_app (goodIn_of _ (by decide +kernel)) ggX7_cost_X7_costOf
theorem dX7_cost_0 : decode cX7_cost 0 = .ok (.aload_n 0, 1) := by decide +kernel
theorem dX7_cost_1 : decode cX7_cost 1 = .ok (.iload_n 1, 1) := by decide +kernel
theorem dX7_cost_2 : decode cX7_cost 2 = .ok (.invokevirtual 81, 3) := by decide +kernel
theorem dX7_cost_5 : decode cX7_cost 5 = .ok (.ifCond .eq 20, 3) := by decide +kernel
theorem dX7_cost_8 : decode cX7_cost 8 = .ok (.aload_n 0, 1) := by decide +kernel
theorem dX7_cost_9 : decode cX7_cost 9 = .ok (.iload_n 2, 1) := by decide +kernel
theorem dX7_cost_10 : decode cX7_cost 10 = .ok (.invokevirtual 85, 3) := by decide +kernel
theorem dX7_cost_13 : decode cX7_cost 13 = .ok (.ifCond .eq 12, 3) := by decide +kernel
theorem dX7_cost_16 : decode cX7_cost 16 = .ok (.aload_n 0, 1) := by decide +kernel
theorem dX7_cost_17 : decode cX7_cost 17 = .ok (.iload_n 1, 1) := by decide +kernel
theorem dX7_cost_18 : decode cX7_cost 18 = .ok (.iload_n 2, 1) := by decide +kernel
theorem dX7_cost_19 : decode cX7_cost 19 = .ok (.invokevirtual 88, 3) := by decide +kernel
theorem dX7_cost_22 : decode cX7_cost 22 = .ok (.goto 4, 3) := by decide +kernel
theorem dX7_cost_25 : decode cX7_cost 25 = .ok (.iconst (-1), 1) := by decide +kernel
theorem dX7_cost_26 : decode cX7_cost 26 = .ok (.ireturn, 1) := by decide +kernel
set_option maxRecDepth 20000 in
theorem ggX7_known_X7_isEnd : GoodIn wsX7_known wsX7_isEnd := goodIn_r _ [5, 6, 7, 8, 4, 9, 27, 28, 29, 30, 31, 32, 33, 34, 35, 36, 37, 38, 39, 40, 41, 42, 43, 44] (by decide +kernel) (by decide +kernel)
set_option maxRecDepth 20000 in
theorem gX7_known_X7_isEnd : GoodIn wsX7_known (wsV RX7 85 RX7 yX7_isEnd wsX7_isEnd) := goodIn_app (goodIn_of _ (by decide +kernel)) ggX7_known_X7_isEnd
set_option maxRecDepth 20000 in
theorem ggX7_known_X7_knownBy : GoodIn wsX7_known wsX7_knownBy := goodIn_r _ [13, 14, 15, 16, 17, 4, 18, 19, 20, 21, 22, 23, 24, 25, 26, 27, 28, 29, 30, 31, 32, 33, 34, 35, 36, 37, 38, 39, 40, 41, 42, 43, 44] (by decide +kernel) (by decide +kernel)
set_option maxRecDepth 20000 in
theorem gX7_known_X7_knownBy : GoodIn wsX7_known (wsV RX7 70 RX7 yX7_knownBy wsX7_knownBy) := goodIn_app (goodIn_of _ (by decide +kernel)) ggX7_known_X7_knownBy
theorem dX7_known_0 : decode cX7_known 0 = .ok (.aload_n 0, 1) := by decide +kernel
theorem dX7_known_1 : decode cX7_known 1 = .ok (.iload_n 1, 1) := by decide +kernel
theorem dX7_known_2 : decode cX7_known 2 = .ok (.invokevirtual 85, 3) := by decide +kernel
theorem dX7_known_5 : decode cX7_known 5 = .ok (.ifCond .eq 11, 3) := by decide +kernel
theorem dX7_known_8 : decode cX7_known 8 = .ok (.aload_n 0, 1) := by decide +kernel
theorem dX7_known_9 : decode cX7_known 9 = .ok (.iload_n 1, 1) := by decide +kernel
theorem dX7_known_10 : decode cX7_known 10 = .ok (.invokevirtual 70, 3) := by decide +kernel
theorem dX7_known_13 : decode cX7_known 13 = .ok (.goto 4, 3) := by decide +kernel
theorem dX7_known_16 : decode cX7_known 16 = .ok (.iconst (-1), 1) := by decide +kernel
theorem dX7_known_17 : decode cX7_known 17 = .ok (.ireturn, 1) := by decide +kernel
set_option maxRecDepth 20000 in
theorem ggX7_worstEnd_X7_costOf : GoodIn wsX7_worstEnd wsX7_costOf := goodIn_r _ [6, 7, 8, 9, 10, 5, 11, 12, 13, 14, 15, 16, 17, 18, 19, 24, 25, 26, 27, 28, 29, 30, 31, 32, 33, 34, 35, 36, 37, 38, 39, 40, 41] (by decide +kernel) (by decide +kernel)
set_option maxRecDepth 20000 in
theorem gX7_worstEnd_X7_costOf : GoodIn wsX7_worstEnd (wsV RX7 88 RX7 yX7_costOf wsX7_costOf) := goodIn_app (goodIn_of _ (by decide +kernel)) ggX7_worstEnd_X7_costOf
set_option maxRecDepth 20000 in
theorem ggX7_worstEnd_X7_knownBy : GoodIn wsX7_worstEnd wsX7_knownBy := goodIn_r _ [23, 7, 8, 9, 10, 5, 11, 12, 13, 14, 15, 16, 17, 18, 19, 24, 25, 26, 27, 28, 29, 30, 31, 32, 33, 34, 35, 36, 37, 38, 39, 40, 41] (by decide +kernel) (by decide +kernel)
set_option maxRecDepth 20000 in
theorem gX7_worstEnd_X7_knownBy : GoodIn wsX7_worstEnd (wsV RX7 70 RX7 yX7_knownBy wsX7_knownBy) := goodIn_app (goodIn_of _ (by decide +kernel)) ggX7_worstEnd_X7_knownBy
theorem dX7_worstEnd_0 : decode cX7_worstEnd 0 = .ok (.iconst 1, 1) := by decide +kernel
theorem dX7_worstEnd_1 : decode cX7_worstEnd 1 = .ok (.istore_n 2, 1) := by decide +kernel
theorem dX7_worstEnd_2 : decode cX7_worstEnd 2 = .ok (.iconst 2, 1) := by decide +kernel
theorem dX7_worstEnd_3 : decode cX7_worstEnd 3 = .ok (.istore_n 3, 1) := by decide +kernel
theorem dX7_worstEnd_4 : decode cX7_worstEnd 4 = .ok (.iload_n 3, 1) := by decide +kernel
theorem dX7_worstEnd_5 : decode cX7_worstEnd 5 = .ok (.aload_n 0, 1) := by decide +kernel
theorem dX7_worstEnd_6 : decode cX7_worstEnd 6 = .ok (.getfield 19, 3) := by decide +kernel
theorem dX7_worstEnd_9 : decode cX7_worstEnd 9 = .ok (.if_icmp .gt 47, 3) := by decide +kernel
theorem dX7_worstEnd_12 : decode cX7_worstEnd 12 = .ok (.aload_n 0, 1) := by decide +kernel
theorem dX7_worstEnd_13 : decode cX7_worstEnd 13 = .ok (.iload_n 1, 1) := by decide +kernel
theorem dX7_worstEnd_14 : decode cX7_worstEnd 14 = .ok (.iload_n 3, 1) := by decide +kernel
theorem dX7_worstEnd_15 : decode cX7_worstEnd 15 = .ok (.invokevirtual 88, 3) := by decide +kernel
theorem dX7_worstEnd_18 : decode cX7_worstEnd 18 = .ok (.i2l, 1) := by decide +kernel
theorem dX7_worstEnd_19 : decode cX7_worstEnd 19 = .ok (.aload_n 0, 1) := by decide +kernel
theorem dX7_worstEnd_20 : decode cX7_worstEnd 20 = .ok (.iload_n 2, 1) := by decide +kernel
theorem dX7_worstEnd_21 : decode cX7_worstEnd 21 = .ok (.invokevirtual 70, 3) := by decide +kernel
theorem dX7_worstEnd_24 : decode cX7_worstEnd 24 = .ok (.i2l, 1) := by decide +kernel
theorem dX7_worstEnd_25 : decode cX7_worstEnd 25 = .ok (.lmul, 1) := by decide +kernel
theorem dX7_worstEnd_26 : decode cX7_worstEnd 26 = .ok (.aload_n 0, 1) := by decide +kernel
theorem dX7_worstEnd_27 : decode cX7_worstEnd 27 = .ok (.iload_n 1, 1) := by decide +kernel
theorem dX7_worstEnd_28 : decode cX7_worstEnd 28 = .ok (.iload_n 2, 1) := by decide +kernel
theorem dX7_worstEnd_29 : decode cX7_worstEnd 29 = .ok (.invokevirtual 88, 3) := by decide +kernel
theorem dX7_worstEnd_32 : decode cX7_worstEnd 32 = .ok (.i2l, 1) := by decide +kernel
theorem dX7_worstEnd_33 : decode cX7_worstEnd 33 = .ok (.aload_n 0, 1) := by decide +kernel
theorem dX7_worstEnd_34 : decode cX7_worstEnd 34 = .ok (.iload_n 3, 1) := by decide +kernel
theorem dX7_worstEnd_35 : decode cX7_worstEnd 35 = .ok (.invokevirtual 70, 3) := by decide +kernel
theorem dX7_worstEnd_38 : decode cX7_worstEnd 38 = .ok (.i2l, 1) := by decide +kernel
theorem dX7_worstEnd_39 : decode cX7_worstEnd 39 = .ok (.lmul, 1) := by decide +kernel
theorem dX7_worstEnd_40 : decode cX7_worstEnd 40 = .ok (.lcmp, 1) := by decide +kernel
theorem dX7_worstEnd_41 : decode cX7_worstEnd 41 = .ok (.ifCond .le 7, 3) := by decide +kernel
theorem dX7_worstEnd_44 : decode cX7_worstEnd 44 = .ok (.iload_n 3, 1) := by decide +kernel
theorem dX7_worstEnd_45 : decode cX7_worstEnd 45 = .ok (.goto 4, 3) := by decide +kernel
theorem dX7_worstEnd_48 : decode cX7_worstEnd 48 = .ok (.iload_n 2, 1) := by decide +kernel
theorem dX7_worstEnd_49 : decode cX7_worstEnd 49 = .ok (.istore_n 2, 1) := by decide +kernel
theorem dX7_worstEnd_50 : decode cX7_worstEnd 50 = .ok (.iinc 3 1, 3) := by decide +kernel
theorem dX7_worstEnd_53 : decode cX7_worstEnd 53 = .ok (.goto (-49), 3) := by decide +kernel
theorem dX7_worstEnd_56 : decode cX7_worstEnd 56 = .ok (.iload_n 2, 1) := by decide +kernel
theorem dX7_worstEnd_57 : decode cX7_worstEnd 57 = .ok (.ireturn, 1) := by decide +kernel
theorem dX7_common_0 : decode cX7_common 0 = .ok (.lload_n 0, 1) := by decide +kernel
theorem dX7_common_1 : decode cX7_common 1 = .ok (.lstore 4, 2) := by decide +kernel
theorem dX7_common_3 : decode cX7_common 3 = .ok (.lload_n 2, 1) := by decide +kernel
theorem dX7_common_4 : decode cX7_common 4 = .ok (.lstore 6, 2) := by decide +kernel
theorem dX7_common_6 : decode cX7_common 6 = .ok (.lload 6, 2) := by decide +kernel
theorem dX7_common_8 : decode cX7_common 8 = .ok (.lconst 0, 1) := by decide +kernel
theorem dX7_common_9 : decode cX7_common 9 = .ok (.lcmp, 1) := by decide +kernel
theorem dX7_common_10 : decode cX7_common 10 = .ok (.ifCond .eq 21, 3) := by decide +kernel
theorem dX7_common_13 : decode cX7_common 13 = .ok (.lload 4, 2) := by decide +kernel
theorem dX7_common_15 : decode cX7_common 15 = .ok (.lload 6, 2) := by decide +kernel
theorem dX7_common_17 : decode cX7_common 17 = .ok (.lrem, 1) := by decide +kernel
theorem dX7_common_18 : decode cX7_common 18 = .ok (.lstore 8, 2) := by decide +kernel
theorem dX7_common_20 : decode cX7_common 20 = .ok (.lload 6, 2) := by decide +kernel
theorem dX7_common_22 : decode cX7_common 22 = .ok (.lstore 4, 2) := by decide +kernel
theorem dX7_common_24 : decode cX7_common 24 = .ok (.lload 8, 2) := by decide +kernel
theorem dX7_common_26 : decode cX7_common 26 = .ok (.lstore 6, 2) := by decide +kernel
theorem dX7_common_28 : decode cX7_common 28 = .ok (.goto (-22), 3) := by decide +kernel
theorem dX7_common_31 : decode cX7_common 31 = .ok (.lload 4, 2) := by decide +kernel
theorem dX7_common_33 : decode cX7_common 33 = .ok (.lreturn, 1) := by decide +kernel
set_option maxRecDepth 20000 in
theorem ggX7_ratio_X7_isPlan : GoodIn wsX7_ratio wsX7_isPlan := goodIn_r _ [5, 6, 7, 8, 4, 9, 42, 43, 44, 45, 46, 47, 48, 49, 50, 51, 52, 53, 54, 55, 56, 57, 58, 59] (by decide +kernel) (by decide +kernel)
set_option maxRecDepth 20000 in
theorem gX7_ratio_X7_isPlan : GoodIn wsX7_ratio (wsV RX7 81 RX7 yX7_isPlan wsX7_isPlan) := goodIn_app (goodIn_of _ (by decide +kernel)) ggX7_ratio_X7_isPlan
set_option maxRecDepth 20000 in
theorem ggX7_ratio_X7_isEnd : GoodIn wsX7_ratio wsX7_isEnd := goodIn_r _ [13, 6, 7, 8, 4, 9, 42, 43, 44, 45, 46, 47, 48, 49, 50, 51, 52, 53, 54, 55, 56, 57, 58, 59] (by decide +kernel) (by decide +kernel)
set_option maxRecDepth 20000 in
theorem gX7_ratio_X7_isEnd : GoodIn wsX7_ratio (wsV RX7 85 RX7 yX7_isEnd wsX7_isEnd) := goodIn_app (goodIn_of _ (by decide +kernel)) ggX7_ratio_X7_isEnd
set_option maxRecDepth 20000 in
theorem ggX7_ratio_X7_in : GoodIn wsX7_ratio wsX7_in := goodIn_r _ [9] (by decide +kernel) (by decide +kernel)
set_option maxRecDepth 20000 in
theorem gX7_ratio_X7_in : GoodIn wsX7_ratio (va_wsS RX7 66 yX7_in wsX7_in) := goodIn_app (goodIn_of _ (by decide +kernel)) ggX7_ratio_X7_in
set_option maxRecDepth 20000 in
theorem ggX7_ratio_X7_worstEnd : GoodIn wsX7_ratio wsX7_worstEnd := goodIn_r _ [17, 6, 18, 19, 20, 4, 21, 22, 23, 24, 25, 26, 27, 28, 29, 30, 31, 32, 33, 34, 35, 36, 37, 38, 42, 43, 44, 45, 46, 47, 48, 49, 50, 51, 52, 53, 54, 55, 56, 57, 58, 59] (by decide +kernel) (by decide +kernel)
set_option maxRecDepth 20000 in
theorem gX7_ratio_X7_worstEnd : GoodIn wsX7_ratio (wsV RX7 92 RX7 yX7_worstEnd wsX7_worstEnd) := goodIn_app (goodIn_of _ (by decide +kernel)) ggX7_ratio_X7_worstEnd
set_option maxRecDepth 20000 in
theorem ggX7_ratio_X7_costOf : GoodIn wsX7_ratio wsX7_costOf := goodIn_r _ [21, 22, 23, 24, 25, 4, 26, 27, 28, 29, 30, 31, 32, 33, 34, 42, 43, 44, 45, 46, 47, 48, 49, 50, 51, 52, 53, 54, 55, 56, 57, 58, 59] (by decide +kernel) (by decide +kernel)
set_option maxRecDepth 20000 in
theorem gX7_ratio_X7_costOf : GoodIn wsX7_ratio (wsV RX7 88 RX7 yX7_costOf wsX7_costOf) := goodIn_app (goodIn_of _ (by decide +kernel)) ggX7_ratio_X7_costOf
set_option maxRecDepth 20000 in
theorem ggX7_ratio_X7_knownBy : GoodIn wsX7_ratio wsX7_knownBy := goodIn_r _ [38, 22, 23, 24, 25, 4, 26, 27, 28, 29, 30, 31, 32, 33, 34, 42, 43, 44, 45, 46, 47, 48, 49, 50, 51, 52, 53, 54, 55, 56, 57, 58, 59] (by decide +kernel) (by decide +kernel)
set_option maxRecDepth 20000 in
theorem gX7_ratio_X7_knownBy : GoodIn wsX7_ratio (wsV RX7 70 RX7 yX7_knownBy wsX7_knownBy) := goodIn_app (goodIn_of _ (by decide +kernel)) ggX7_ratio_X7_knownBy
set_option maxRecDepth 20000 in
theorem ggX7_ratio_X7_common : GoodIn wsX7_ratio wsX7_common := goodIn_r _ [41] (by decide +kernel) (by decide +kernel)
set_option maxRecDepth 20000 in
theorem gX7_ratio_X7_common : GoodIn wsX7_ratio (va_wsS RX7 95 yX7_common wsX7_common) := goodIn_app (goodIn_of _ (by decide +kernel)) ggX7_ratio_X7_common
theorem dX7_ratio_0 : decode cX7_ratio 0 = .ok (.aload_n 0, 1) := by decide +kernel
theorem dX7_ratio_1 : decode cX7_ratio 1 = .ok (.iload_n 1, 1) := by decide +kernel
theorem dX7_ratio_2 : decode cX7_ratio 2 = .ok (.invokevirtual 81, 3) := by decide +kernel
theorem dX7_ratio_5 : decode cX7_ratio 5 = .ok (.ifCond .eq 24, 3) := by decide +kernel
theorem dX7_ratio_8 : decode cX7_ratio 8 = .ok (.iload_n 2, 1) := by decide +kernel
theorem dX7_ratio_9 : decode cX7_ratio 9 = .ok (.ifCond .eq 11, 3) := by decide +kernel
theorem dX7_ratio_12 : decode cX7_ratio 12 = .ok (.aload_n 0, 1) := by decide +kernel
theorem dX7_ratio_13 : decode cX7_ratio 13 = .ok (.iload_n 2, 1) := by decide +kernel
theorem dX7_ratio_14 : decode cX7_ratio 14 = .ok (.invokevirtual 85, 3) := by decide +kernel
theorem dX7_ratio_17 : decode cX7_ratio 17 = .ok (.ifCond .eq 12, 3) := by decide +kernel
theorem dX7_ratio_20 : decode cX7_ratio 20 = .ok (.iload_n 3, 1) := by decide +kernel
theorem dX7_ratio_21 : decode cX7_ratio 21 = .ok (.iconst 0, 1) := by decide +kernel
theorem dX7_ratio_22 : decode cX7_ratio 22 = .ok (.iconst 1, 1) := by decide +kernel
theorem dX7_ratio_23 : decode cX7_ratio 23 = .ok (.invokestatic 66, 3) := by decide +kernel
theorem dX7_ratio_26 : decode cX7_ratio 26 = .ok (.ifCond .ne 5, 3) := by decide +kernel
theorem dX7_ratio_29 : decode cX7_ratio 29 = .ok (.iconst (-1), 1) := by decide +kernel
theorem dX7_ratio_30 : decode cX7_ratio 30 = .ok (.ireturn, 1) := by decide +kernel
theorem dX7_ratio_31 : decode cX7_ratio 31 = .ok (.iload_n 2, 1) := by decide +kernel
theorem dX7_ratio_32 : decode cX7_ratio 32 = .ok (.ifCond .ne 11, 3) := by decide +kernel
theorem dX7_ratio_35 : decode cX7_ratio 35 = .ok (.aload_n 0, 1) := by decide +kernel
theorem dX7_ratio_36 : decode cX7_ratio 36 = .ok (.iload_n 1, 1) := by decide +kernel
theorem dX7_ratio_37 : decode cX7_ratio 37 = .ok (.invokevirtual 92, 3) := by decide +kernel
theorem dX7_ratio_40 : decode cX7_ratio 40 = .ok (.goto 4, 3) := by decide +kernel
theorem dX7_ratio_43 : decode cX7_ratio 43 = .ok (.iload_n 2, 1) := by decide +kernel
theorem dX7_ratio_44 : decode cX7_ratio 44 = .ok (.istore 4, 2) := by decide +kernel
theorem dX7_ratio_46 : decode cX7_ratio 46 = .ok (.aload_n 0, 1) := by decide +kernel
theorem dX7_ratio_47 : decode cX7_ratio 47 = .ok (.iload_n 1, 1) := by decide +kernel
theorem dX7_ratio_48 : decode cX7_ratio 48 = .ok (.iload 4, 2) := by decide +kernel
theorem dX7_ratio_50 : decode cX7_ratio 50 = .ok (.invokevirtual 88, 3) := by decide +kernel
theorem dX7_ratio_53 : decode cX7_ratio 53 = .ok (.istore 5, 2) := by decide +kernel
theorem dX7_ratio_55 : decode cX7_ratio 55 = .ok (.aload_n 0, 1) := by decide +kernel
theorem dX7_ratio_56 : decode cX7_ratio 56 = .ok (.iload 4, 2) := by decide +kernel
theorem dX7_ratio_58 : decode cX7_ratio 58 = .ok (.invokevirtual 70, 3) := by decide +kernel
theorem dX7_ratio_61 : decode cX7_ratio 61 = .ok (.istore 6, 2) := by decide +kernel
theorem dX7_ratio_63 : decode cX7_ratio 63 = .ok (.iload 5, 2) := by decide +kernel
theorem dX7_ratio_65 : decode cX7_ratio 65 = .ok (.i2l, 1) := by decide +kernel
theorem dX7_ratio_66 : decode cX7_ratio 66 = .ok (.iload 6, 2) := by decide +kernel
theorem dX7_ratio_68 : decode cX7_ratio 68 = .ok (.i2l, 1) := by decide +kernel
theorem dX7_ratio_69 : decode cX7_ratio 69 = .ok (.invokestatic 95, 3) := by decide +kernel
theorem dX7_ratio_72 : decode cX7_ratio 72 = .ok (.l2i, 1) := by decide +kernel
theorem dX7_ratio_73 : decode cX7_ratio 73 = .ok (.istore 7, 2) := by decide +kernel
theorem dX7_ratio_75 : decode cX7_ratio 75 = .ok (.iload_n 3, 1) := by decide +kernel
theorem dX7_ratio_76 : decode cX7_ratio 76 = .ok (.ifCond .ne 11, 3) := by decide +kernel
theorem dX7_ratio_79 : decode cX7_ratio 79 = .ok (.iload 5, 2) := by decide +kernel
theorem dX7_ratio_81 : decode cX7_ratio 81 = .ok (.iload 7, 2) := by decide +kernel
theorem dX7_ratio_83 : decode cX7_ratio 83 = .ok (.idiv, 1) := by decide +kernel
theorem dX7_ratio_84 : decode cX7_ratio 84 = .ok (.goto 8, 3) := by decide +kernel
theorem dX7_ratio_87 : decode cX7_ratio 87 = .ok (.iload 6, 2) := by decide +kernel
theorem dX7_ratio_89 : decode cX7_ratio 89 = .ok (.iload 7, 2) := by decide +kernel
theorem dX7_ratio_91 : decode cX7_ratio 91 = .ok (.idiv, 1) := by decide +kernel
theorem dX7_ratio_92 : decode cX7_ratio 92 = .ok (.ireturn, 1) := by decide +kernel
set_option maxRecDepth 20000 in
theorem ggX7_surePlan_X7_worstEnd : GoodIn wsX7_surePlan wsX7_worstEnd := goodIn_r _ [6, 1, 7, 8, 9, 5, 10, 11, 12, 13, 14, 15, 16, 17, 18, 19, 20, 21, 22, 23, 24, 25, 26, 27, 28, 29, 30, 31, 32, 33, 34, 35, 36, 37, 38, 39, 40, 41, 42, 43, 44, 45] (by decide +kernel) (by decide +kernel)
set_option maxRecDepth 20000 in
theorem gX7_surePlan_X7_worstEnd : GoodIn wsX7_surePlan (wsV RX7 92 RX7 yX7_worstEnd wsX7_worstEnd) := goodIn_app (goodIn_of _ (by decide +kernel)) ggX7_surePlan_X7_worstEnd
set_option maxRecDepth 20000 in
theorem ggX7_surePlan_X7_costOf : GoodIn wsX7_surePlan wsX7_costOf := goodIn_r _ [10, 11, 12, 13, 14, 5, 15, 16, 17, 18, 19, 20, 21, 22, 23, 28, 29, 30, 31, 32, 33, 34, 35, 36, 37, 38, 39, 40, 41, 42, 43, 44, 45] (by decide +kernel) (by decide +kernel)
set_option maxRecDepth 20000 in
theorem gX7_surePlan_X7_costOf : GoodIn wsX7_surePlan (wsV RX7 88 RX7 yX7_costOf wsX7_costOf) := goodIn_app (goodIn_of _ (by decide +kernel)) ggX7_surePlan_X7_costOf
set_option maxRecDepth 20000 in
theorem ggX7_surePlan_X7_knownBy : GoodIn wsX7_surePlan wsX7_knownBy := goodIn_r _ [27, 11, 12, 13, 14, 5, 15, 16, 17, 18, 19, 20, 21, 22, 23, 28, 29, 30, 31, 32, 33, 34, 35, 36, 37, 38, 39, 40, 41, 42, 43, 44, 45] (by decide +kernel) (by decide +kernel)
set_option maxRecDepth 20000 in
theorem gX7_surePlan_X7_knownBy : GoodIn wsX7_surePlan (wsV RX7 70 RX7 yX7_knownBy wsX7_knownBy) := goodIn_app (goodIn_of _ (by decide +kernel)) ggX7_surePlan_X7_knownBy
theorem dX7_surePlan_0 : decode cX7_surePlan 0 = .ok (.iconst 1, 1) := by decide +kernel
theorem dX7_surePlan_1 : decode cX7_surePlan 1 = .ok (.istore_n 1, 1) := by decide +kernel
theorem dX7_surePlan_2 : decode cX7_surePlan 2 = .ok (.aload_n 0, 1) := by decide +kernel
theorem dX7_surePlan_3 : decode cX7_surePlan 3 = .ok (.iconst 1, 1) := by decide +kernel
theorem dX7_surePlan_4 : decode cX7_surePlan 4 = .ok (.invokevirtual 92, 3) := by decide +kernel
theorem dX7_surePlan_7 : decode cX7_surePlan 7 = .ok (.istore_n 2, 1) := by decide +kernel
theorem dX7_surePlan_8 : decode cX7_surePlan 8 = .ok (.iconst 2, 1) := by decide +kernel
theorem dX7_surePlan_9 : decode cX7_surePlan 9 = .ok (.istore_n 3, 1) := by decide +kernel
theorem dX7_surePlan_10 : decode cX7_surePlan 10 = .ok (.iload_n 3, 1) := by decide +kernel
theorem dX7_surePlan_11 : decode cX7_surePlan 11 = .ok (.aload_n 0, 1) := by decide +kernel
theorem dX7_surePlan_12 : decode cX7_surePlan 12 = .ok (.getfield 19, 3) := by decide +kernel
theorem dX7_surePlan_15 : decode cX7_surePlan 15 = .ok (.iconst 1, 1) := by decide +kernel
theorem dX7_surePlan_16 : decode cX7_surePlan 16 = .ok (.iadd, 1) := by decide +kernel
theorem dX7_surePlan_17 : decode cX7_surePlan 17 = .ok (.if_icmp .gt 55, 3) := by decide +kernel
theorem dX7_surePlan_20 : decode cX7_surePlan 20 = .ok (.aload_n 0, 1) := by decide +kernel
theorem dX7_surePlan_21 : decode cX7_surePlan 21 = .ok (.iload_n 3, 1) := by decide +kernel
theorem dX7_surePlan_22 : decode cX7_surePlan 22 = .ok (.invokevirtual 92, 3) := by decide +kernel
theorem dX7_surePlan_25 : decode cX7_surePlan 25 = .ok (.istore 4, 2) := by decide +kernel
theorem dX7_surePlan_27 : decode cX7_surePlan 27 = .ok (.aload_n 0, 1) := by decide +kernel
theorem dX7_surePlan_28 : decode cX7_surePlan 28 = .ok (.iload_n 3, 1) := by decide +kernel
theorem dX7_surePlan_29 : decode cX7_surePlan 29 = .ok (.iload 4, 2) := by decide +kernel
theorem dX7_surePlan_31 : decode cX7_surePlan 31 = .ok (.invokevirtual 88, 3) := by decide +kernel
theorem dX7_surePlan_34 : decode cX7_surePlan 34 = .ok (.i2l, 1) := by decide +kernel
theorem dX7_surePlan_35 : decode cX7_surePlan 35 = .ok (.aload_n 0, 1) := by decide +kernel
theorem dX7_surePlan_36 : decode cX7_surePlan 36 = .ok (.iload_n 2, 1) := by decide +kernel
theorem dX7_surePlan_37 : decode cX7_surePlan 37 = .ok (.invokevirtual 70, 3) := by decide +kernel
theorem dX7_surePlan_40 : decode cX7_surePlan 40 = .ok (.i2l, 1) := by decide +kernel
theorem dX7_surePlan_41 : decode cX7_surePlan 41 = .ok (.lmul, 1) := by decide +kernel
theorem dX7_surePlan_42 : decode cX7_surePlan 42 = .ok (.aload_n 0, 1) := by decide +kernel
theorem dX7_surePlan_43 : decode cX7_surePlan 43 = .ok (.iload_n 1, 1) := by decide +kernel
theorem dX7_surePlan_44 : decode cX7_surePlan 44 = .ok (.iload_n 2, 1) := by decide +kernel
theorem dX7_surePlan_45 : decode cX7_surePlan 45 = .ok (.invokevirtual 88, 3) := by decide +kernel
theorem dX7_surePlan_48 : decode cX7_surePlan 48 = .ok (.i2l, 1) := by decide +kernel
theorem dX7_surePlan_49 : decode cX7_surePlan 49 = .ok (.aload_n 0, 1) := by decide +kernel
theorem dX7_surePlan_50 : decode cX7_surePlan 50 = .ok (.iload 4, 2) := by decide +kernel
theorem dX7_surePlan_52 : decode cX7_surePlan 52 = .ok (.invokevirtual 70, 3) := by decide +kernel
theorem dX7_surePlan_55 : decode cX7_surePlan 55 = .ok (.i2l, 1) := by decide +kernel
theorem dX7_surePlan_56 : decode cX7_surePlan 56 = .ok (.lmul, 1) := by decide +kernel
theorem dX7_surePlan_57 : decode cX7_surePlan 57 = .ok (.lcmp, 1) := by decide +kernel
theorem dX7_surePlan_58 : decode cX7_surePlan 58 = .ok (.ifCond .ge 8, 3) := by decide +kernel
theorem dX7_surePlan_61 : decode cX7_surePlan 61 = .ok (.iload_n 3, 1) := by decide +kernel
theorem dX7_surePlan_62 : decode cX7_surePlan 62 = .ok (.istore_n 1, 1) := by decide +kernel
theorem dX7_surePlan_63 : decode cX7_surePlan 63 = .ok (.iload 4, 2) := by decide +kernel
theorem dX7_surePlan_65 : decode cX7_surePlan 65 = .ok (.istore_n 2, 1) := by decide +kernel
theorem dX7_surePlan_66 : decode cX7_surePlan 66 = .ok (.iinc 3 1, 3) := by decide +kernel
theorem dX7_surePlan_69 : decode cX7_surePlan 69 = .ok (.goto (-59), 3) := by decide +kernel
theorem dX7_surePlan_72 : decode cX7_surePlan 72 = .ok (.iload_n 1, 1) := by decide +kernel
theorem dX7_surePlan_73 : decode cX7_surePlan 73 = .ok (.ireturn, 1) := by decide +kernel
set_option maxRecDepth 20000 in
theorem ggX7_sure_X7_surePlan : GoodIn wsX7_sure wsX7_surePlan := goodIn_r _ [5, 6, 7, 8, 9, 4, 10, 11, 12, 13, 14, 15, 16, 17, 18, 19, 20, 21, 22, 23, 24, 25, 26, 27, 28, 29, 30, 31, 32, 33, 34, 35, 36, 37, 38, 39, 40, 41, 42, 43, 44, 45, 46, 47, 48, 49] (by decide +kernel) (by decide +kernel)
set_option maxRecDepth 20000 in
theorem gX7_sure_X7_surePlan : GoodIn wsX7_sure (wsV RX7 99 RX7 yX7_surePlan wsX7_surePlan) := goodIn_app (goodIn_of _ (by decide +kernel)) ggX7_sure_X7_surePlan
theorem dX7_sure_0 : decode cX7_sure 0 = .ok (.aload_n 0, 1) := by decide +kernel
theorem dX7_sure_1 : decode cX7_sure 1 = .ok (.invokevirtual 99, 3) := by decide +kernel
theorem dX7_sure_4 : decode cX7_sure 4 = .ok (.ireturn, 1) := by decide +kernel
set_option maxRecDepth 20000 in
theorem ggX7_share_X7_in : GoodIn wsX7_share wsX7_in := goodIn_r _ [6] (by decide +kernel) (by decide +kernel)
set_option maxRecDepth 20000 in
theorem gX7_share_X7_in : GoodIn wsX7_share (va_wsS RX7 66 yX7_in wsX7_in) := goodIn_app (goodIn_of _ (by decide +kernel)) ggX7_share_X7_in
set_option maxRecDepth 20000 in
theorem ggX7_share_X7_isPlan : GoodIn wsX7_share wsX7_isPlan := goodIn_r _ [10, 11, 3, 4, 5, 6, 16, 17, 18, 19, 20, 21, 22, 23, 24, 25, 26, 27, 28, 29, 30, 31, 32, 33] (by decide +kernel) (by decide +kernel)
set_option maxRecDepth 20000 in
theorem gX7_share_X7_isPlan : GoodIn wsX7_share (wsV RX7 81 RX7 yX7_isPlan wsX7_isPlan) := goodIn_app (goodIn_of _ (by decide +kernel)) ggX7_share_X7_isPlan
set_option maxRecDepth 20000 in
theorem ggX7_share_X7_isEnd : GoodIn wsX7_share wsX7_isEnd := goodIn_r _ [15, 11, 3, 4, 5, 6, 16, 17, 18, 19, 20, 21, 22, 23, 24, 25, 26, 27, 28, 29, 30, 31, 32, 33] (by decide +kernel) (by decide +kernel)
set_option maxRecDepth 20000 in
theorem gX7_share_X7_isEnd : GoodIn wsX7_share (wsV RX7 85 RX7 yX7_isEnd wsX7_isEnd) := goodIn_app (goodIn_of _ (by decide +kernel)) ggX7_share_X7_isEnd
theorem dX7_share_0 : decode cX7_share 0 = .ok (.iload_n 1, 1) := by decide +kernel
theorem dX7_share_1 : decode cX7_share 1 = .ok (.iconst 0, 1) := by decide +kernel
theorem dX7_share_2 : decode cX7_share 2 = .ok (.iconst 1, 1) := by decide +kernel
theorem dX7_share_3 : decode cX7_share 3 = .ok (.invokestatic 66, 3) := by decide +kernel
theorem dX7_share_6 : decode cX7_share 6 = .ok (.ifCond .eq 36, 3) := by decide +kernel
theorem dX7_share_9 : decode cX7_share 9 = .ok (.iload_n 1, 1) := by decide +kernel
theorem dX7_share_10 : decode cX7_share 10 = .ok (.ifCond .ne 14, 3) := by decide +kernel
theorem dX7_share_13 : decode cX7_share 13 = .ok (.aload_n 0, 1) := by decide +kernel
theorem dX7_share_14 : decode cX7_share 14 = .ok (.iload_n 2, 1) := by decide +kernel
theorem dX7_share_15 : decode cX7_share 15 = .ok (.invokevirtual 81, 3) := by decide +kernel
theorem dX7_share_18 : decode cX7_share 18 = .ok (.ifCond .ne 14, 3) := by decide +kernel
theorem dX7_share_21 : decode cX7_share 21 = .ok (.goto 21, 3) := by decide +kernel
theorem dX7_share_24 : decode cX7_share 24 = .ok (.aload_n 0, 1) := by decide +kernel
theorem dX7_share_25 : decode cX7_share 25 = .ok (.iload_n 2, 1) := by decide +kernel
theorem dX7_share_26 : decode cX7_share 26 = .ok (.invokevirtual 85, 3) := by decide +kernel
theorem dX7_share_29 : decode cX7_share 29 = .ok (.ifCond .eq 13, 3) := by decide +kernel
theorem dX7_share_32 : decode cX7_share 32 = .ok (.iload_n 3, 1) := by decide +kernel
theorem dX7_share_33 : decode cX7_share 33 = .ok (.iconst 0, 1) := by decide +kernel
theorem dX7_share_34 : decode cX7_share 34 = .ok (.bipush 9, 2) := by decide +kernel
theorem dX7_share_36 : decode cX7_share 36 = .ok (.invokestatic 66, 3) := by decide +kernel
theorem dX7_share_39 : decode cX7_share 39 = .ok (.ifCond .ne 5, 3) := by decide +kernel
theorem dX7_share_42 : decode cX7_share 42 = .ok (.iconst (-1), 1) := by decide +kernel
theorem dX7_share_43 : decode cX7_share 43 = .ok (.ireturn, 1) := by decide +kernel
theorem dX7_share_44 : decode cX7_share 44 = .ok (.iload_n 1, 1) := by decide +kernel
theorem dX7_share_45 : decode cX7_share 45 = .ok (.ifCond .ne 12, 3) := by decide +kernel
theorem dX7_share_48 : decode cX7_share 48 = .ok (.aload_n 0, 1) := by decide +kernel
theorem dX7_share_49 : decode cX7_share 49 = .ok (.getfield 22, 3) := by decide +kernel
theorem dX7_share_52 : decode cX7_share 52 = .ok (.iload_n 2, 1) := by decide +kernel
theorem dX7_share_53 : decode cX7_share 53 = .ok (.iaload, 1) := by decide +kernel
theorem dX7_share_54 : decode cX7_share 54 = .ok (.goto 9, 3) := by decide +kernel
theorem dX7_share_57 : decode cX7_share 57 = .ok (.aload_n 0, 1) := by decide +kernel
theorem dX7_share_58 : decode cX7_share 58 = .ok (.getfield 26, 3) := by decide +kernel
theorem dX7_share_61 : decode cX7_share 61 = .ok (.iload_n 2, 1) := by decide +kernel
theorem dX7_share_62 : decode cX7_share 62 = .ok (.iaload, 1) := by decide +kernel
theorem dX7_share_63 : decode cX7_share 63 = .ok (.istore 4, 2) := by decide +kernel
theorem dX7_share_65 : decode cX7_share 65 = .ok (.iload_n 1, 1) := by decide +kernel
theorem dX7_share_66 : decode cX7_share 66 = .ok (.ifCond .ne 13, 3) := by decide +kernel
theorem dX7_share_69 : decode cX7_share 69 = .ok (.aload_n 0, 1) := by decide +kernel
theorem dX7_share_70 : decode cX7_share 70 = .ok (.getfield 22, 3) := by decide +kernel
theorem dX7_share_73 : decode cX7_share 73 = .ok (.iload_n 2, 1) := by decide +kernel
theorem dX7_share_74 : decode cX7_share 74 = .ok (.iload_n 3, 1) := by decide +kernel
theorem dX7_share_75 : decode cX7_share 75 = .ok (.iastore, 1) := by decide +kernel
theorem dX7_share_76 : decode cX7_share 76 = .ok (.goto 10, 3) := by decide +kernel
theorem dX7_share_79 : decode cX7_share 79 = .ok (.aload_n 0, 1) := by decide +kernel
theorem dX7_share_80 : decode cX7_share 80 = .ok (.getfield 26, 3) := by decide +kernel
theorem dX7_share_83 : decode cX7_share 83 = .ok (.iload_n 2, 1) := by decide +kernel
theorem dX7_share_84 : decode cX7_share 84 = .ok (.iload_n 3, 1) := by decide +kernel
theorem dX7_share_85 : decode cX7_share 85 = .ok (.iastore, 1) := by decide +kernel
theorem dX7_share_86 : decode cX7_share 86 = .ok (.iload 4, 2) := by decide +kernel
theorem dX7_share_88 : decode cX7_share 88 = .ok (.ireturn, 1) := by decide +kernel
theorem dX7_planShares_0 : decode cX7_planShares 0 = .ok (.lconst 0, 1) := by decide +kernel
theorem dX7_planShares_1 : decode cX7_planShares 1 = .ok (.lstore_n 1, 1) := by decide +kernel
theorem dX7_planShares_2 : decode cX7_planShares 2 = .ok (.iconst 1, 1) := by decide +kernel
end
section
theorem dX7_planShares_3 : decode cX7_planShares 3 = .ok (.istore_n 3, 1) := by decide +kernel
theorem dX7_planShares_4 : decode cX7_planShares 4 = .ok (.iload_n 3, 1) := by decide +kernel
theorem dX7_planShares_5 : decode cX7_planShares 5 = .ok (.aload_n 0, 1) := by decide +kernel
theorem dX7_planShares_6 : decode cX7_planShares 6 = .ok (.getfield 19, 3) := by decide +kernel
theorem dX7_planShares_9 : decode cX7_planShares 9 = .ok (.iconst 1, 1) := by decide +kernel
theorem dX7_planShares_10 : decode cX7_planShares 10 = .ok (.iadd, 1) := by decide +kernel
theorem dX7_planShares_11 : decode cX7_planShares 11 = .ok (.if_icmp .gt 19, 3) := by decide +kernel
theorem dX7_planShares_14 : decode cX7_planShares 14 = .ok (.lload_n 1, 1) := by decide +kernel
theorem dX7_planShares_15 : decode cX7_planShares 15 = .ok (.aload_n 0, 1) := by decide +kernel
theorem dX7_planShares_16 : decode cX7_planShares 16 = .ok (.getfield 22, 3) := by decide +kernel
theorem dX7_planShares_19 : decode cX7_planShares 19 = .ok (.iload_n 3, 1) := by decide +kernel
theorem dX7_planShares_20 : decode cX7_planShares 20 = .ok (.iaload, 1) := by decide +kernel
theorem dX7_planShares_21 : decode cX7_planShares 21 = .ok (.i2l, 1) := by decide +kernel
theorem dX7_planShares_22 : decode cX7_planShares 22 = .ok (.ladd, 1) := by decide +kernel
theorem dX7_planShares_23 : decode cX7_planShares 23 = .ok (.lstore_n 1, 1) := by decide +kernel
theorem dX7_planShares_24 : decode cX7_planShares 24 = .ok (.iinc 3 1, 3) := by decide +kernel
theorem dX7_planShares_27 : decode cX7_planShares 27 = .ok (.goto (-23), 3) := by decide +kernel
theorem dX7_planShares_30 : decode cX7_planShares 30 = .ok (.lload_n 1, 1) := by decide +kernel
theorem dX7_planShares_31 : decode cX7_planShares 31 = .ok (.lreturn, 1) := by decide +kernel
set_option maxRecDepth 20000 in
theorem ggX7_weighed_X7_costOf : GoodIn wsX7_weighed wsX7_costOf := goodIn_r _ [7, 8, 9, 10, 11, 6, 12, 13, 14, 15, 16, 17, 18, 19, 20, 21, 22, 23, 24, 25, 26, 27, 28, 29, 30, 31, 32, 33, 34, 35, 36, 37, 38] (by decide +kernel) (by decide +kernel)
set_option maxRecDepth 20000 in
theorem gX7_weighed_X7_costOf : GoodIn wsX7_weighed (wsV RX7 88 RX7 yX7_costOf wsX7_costOf) := goodIn_app (goodIn_of _ (by decide +kernel)) ggX7_weighed_X7_costOf
theorem dX7_weighed_0 : decode cX7_weighed 0 = .ok (.lconst 0, 1) := by decide +kernel
theorem dX7_weighed_1 : decode cX7_weighed 1 = .ok (.lstore_n 2, 1) := by decide +kernel
theorem dX7_weighed_2 : decode cX7_weighed 2 = .ok (.iconst 1, 1) := by decide +kernel
theorem dX7_weighed_3 : decode cX7_weighed 3 = .ok (.istore 4, 2) := by decide +kernel
theorem dX7_weighed_5 : decode cX7_weighed 5 = .ok (.iload 4, 2) := by decide +kernel
theorem dX7_weighed_7 : decode cX7_weighed 7 = .ok (.aload_n 0, 1) := by decide +kernel
theorem dX7_weighed_8 : decode cX7_weighed 8 = .ok (.getfield 19, 3) := by decide +kernel
theorem dX7_weighed_11 : decode cX7_weighed 11 = .ok (.iconst 1, 1) := by decide +kernel
theorem dX7_weighed_12 : decode cX7_weighed 12 = .ok (.iadd, 1) := by decide +kernel
theorem dX7_weighed_13 : decode cX7_weighed 13 = .ok (.if_icmp .gt 29, 3) := by decide +kernel
theorem dX7_weighed_16 : decode cX7_weighed 16 = .ok (.lload_n 2, 1) := by decide +kernel
theorem dX7_weighed_17 : decode cX7_weighed 17 = .ok (.aload_n 0, 1) := by decide +kernel
theorem dX7_weighed_18 : decode cX7_weighed 18 = .ok (.getfield 22, 3) := by decide +kernel
theorem dX7_weighed_21 : decode cX7_weighed 21 = .ok (.iload 4, 2) := by decide +kernel
theorem dX7_weighed_23 : decode cX7_weighed 23 = .ok (.iaload, 1) := by decide +kernel
theorem dX7_weighed_24 : decode cX7_weighed 24 = .ok (.i2l, 1) := by decide +kernel
theorem dX7_weighed_25 : decode cX7_weighed 25 = .ok (.aload_n 0, 1) := by decide +kernel
theorem dX7_weighed_26 : decode cX7_weighed 26 = .ok (.iload 4, 2) := by decide +kernel
theorem dX7_weighed_28 : decode cX7_weighed 28 = .ok (.iload_n 1, 1) := by decide +kernel
theorem dX7_weighed_29 : decode cX7_weighed 29 = .ok (.invokevirtual 88, 3) := by decide +kernel
theorem dX7_weighed_32 : decode cX7_weighed 32 = .ok (.i2l, 1) := by decide +kernel
theorem dX7_weighed_33 : decode cX7_weighed 33 = .ok (.lmul, 1) := by decide +kernel
theorem dX7_weighed_34 : decode cX7_weighed 34 = .ok (.ladd, 1) := by decide +kernel
theorem dX7_weighed_35 : decode cX7_weighed 35 = .ok (.lstore_n 2, 1) := by decide +kernel
theorem dX7_weighed_36 : decode cX7_weighed 36 = .ok (.iinc 4 1, 3) := by decide +kernel
theorem dX7_weighed_39 : decode cX7_weighed 39 = .ok (.goto (-34), 3) := by decide +kernel
theorem dX7_weighed_42 : decode cX7_weighed 42 = .ok (.lload_n 2, 1) := by decide +kernel
theorem dX7_weighed_43 : decode cX7_weighed 43 = .ok (.lreturn, 1) := by decide +kernel
set_option maxRecDepth 20000 in
theorem ggX7_mean_X7_isEnd : GoodIn wsX7_mean wsX7_isEnd := goodIn_r _ [7, 8, 9, 10, 6, 11, 45, 46, 47, 48, 49, 50, 51, 52, 53, 54, 55, 56, 57, 58, 59, 60, 61, 62] (by decide +kernel) (by decide +kernel)
set_option maxRecDepth 20000 in
theorem gX7_mean_X7_isEnd : GoodIn wsX7_mean (wsV RX7 85 RX7 yX7_isEnd wsX7_isEnd) := goodIn_app (goodIn_of _ (by decide +kernel)) ggX7_mean_X7_isEnd
set_option maxRecDepth 20000 in
theorem ggX7_mean_X7_in : GoodIn wsX7_mean wsX7_in := goodIn_r _ [11] (by decide +kernel) (by decide +kernel)
set_option maxRecDepth 20000 in
theorem gX7_mean_X7_in : GoodIn wsX7_mean (va_wsS RX7 66 yX7_in wsX7_in) := goodIn_app (goodIn_of _ (by decide +kernel)) ggX7_mean_X7_in
set_option maxRecDepth 20000 in
theorem ggX7_mean_X7_planShares : GoodIn wsX7_mean wsX7_planShares := goodIn_r _ [15, 8, 16, 45, 46, 47, 48, 49, 50, 51, 52, 53, 54, 55, 56, 57, 58, 59, 60, 61, 62] (by decide +kernel) (by decide +kernel)
set_option maxRecDepth 20000 in
theorem gX7_mean_X7_planShares : GoodIn wsX7_mean (wsV RX7 105 RX7 yX7_planShares wsX7_planShares) := goodIn_app (goodIn_of _ (by decide +kernel)) ggX7_mean_X7_planShares
set_option maxRecDepth 20000 in
theorem ggX7_mean_X7_weighed : GoodIn wsX7_mean wsX7_weighed := goodIn_r _ [20, 8, 16, 21, 22, 23, 6, 24, 25, 26, 27, 28, 29, 30, 31, 32, 33, 34, 35, 36, 37, 45, 46, 47, 48, 49, 50, 51, 52, 53, 54, 55, 56, 57, 58, 59, 60, 61, 62] (by decide +kernel) (by decide +kernel)
set_option maxRecDepth 20000 in
theorem gX7_mean_X7_weighed : GoodIn wsX7_mean (wsV RX7 111 RX7 yX7_weighed wsX7_weighed) := goodIn_app (goodIn_of _ (by decide +kernel)) ggX7_mean_X7_weighed
set_option maxRecDepth 20000 in
theorem ggX7_mean_X7_knownBy : GoodIn wsX7_mean wsX7_knownBy := goodIn_r _ [41, 25, 26, 27, 28, 6, 29, 30, 31, 32, 33, 34, 35, 36, 37, 45, 46, 47, 48, 49, 50, 51, 52, 53, 54, 55, 56, 57, 58, 59, 60, 61, 62] (by decide +kernel) (by decide +kernel)
set_option maxRecDepth 20000 in
theorem gX7_mean_X7_knownBy : GoodIn wsX7_mean (wsV RX7 70 RX7 yX7_knownBy wsX7_knownBy) := goodIn_app (goodIn_of _ (by decide +kernel)) ggX7_mean_X7_knownBy
set_option maxRecDepth 20000 in
theorem ggX7_mean_X7_common : GoodIn wsX7_mean wsX7_common := goodIn_r _ [44] (by decide +kernel) (by decide +kernel)
set_option maxRecDepth 20000 in
theorem gX7_mean_X7_common : GoodIn wsX7_mean (va_wsS RX7 95 yX7_common wsX7_common) := goodIn_app (goodIn_of _ (by decide +kernel)) ggX7_mean_X7_common
theorem dX7_mean_0 : decode cX7_mean 0 = .ok (.aload_n 0, 1) := by decide +kernel
theorem dX7_mean_1 : decode cX7_mean 1 = .ok (.iload_n 1, 1) := by decide +kernel
theorem dX7_mean_2 : decode cX7_mean 2 = .ok (.invokevirtual 85, 3) := by decide +kernel
theorem dX7_mean_5 : decode cX7_mean 5 = .ok (.ifCond .eq 12, 3) := by decide +kernel
theorem dX7_mean_8 : decode cX7_mean 8 = .ok (.iload_n 2, 1) := by decide +kernel
theorem dX7_mean_9 : decode cX7_mean 9 = .ok (.iconst 0, 1) := by decide +kernel
theorem dX7_mean_10 : decode cX7_mean 10 = .ok (.iconst 1, 1) := by decide +kernel
theorem dX7_mean_11 : decode cX7_mean 11 = .ok (.invokestatic 66, 3) := by decide +kernel
theorem dX7_mean_14 : decode cX7_mean 14 = .ok (.ifCond .ne 7, 3) := by decide +kernel
theorem dX7_mean_17 : decode cX7_mean 17 = .ok (.ldc2_w 103, 3) := by decide +kernel
theorem dX7_mean_20 : decode cX7_mean 20 = .ok (.lreturn, 1) := by decide +kernel
theorem dX7_mean_21 : decode cX7_mean 21 = .ok (.aload_n 0, 1) := by decide +kernel
theorem dX7_mean_22 : decode cX7_mean 22 = .ok (.invokevirtual 105, 3) := by decide +kernel
theorem dX7_mean_25 : decode cX7_mean 25 = .ok (.lstore_n 3, 1) := by decide +kernel
theorem dX7_mean_26 : decode cX7_mean 26 = .ok (.lload_n 3, 1) := by decide +kernel
theorem dX7_mean_27 : decode cX7_mean 27 = .ok (.lconst 0, 1) := by decide +kernel
theorem dX7_mean_28 : decode cX7_mean 28 = .ok (.lcmp, 1) := by decide +kernel
theorem dX7_mean_29 : decode cX7_mean 29 = .ok (.ifCond .ne 7, 3) := by decide +kernel
theorem dX7_mean_32 : decode cX7_mean 32 = .ok (.ldc2_w 109, 3) := by decide +kernel
theorem dX7_mean_35 : decode cX7_mean 35 = .ok (.lreturn, 1) := by decide +kernel
theorem dX7_mean_36 : decode cX7_mean 36 = .ok (.aload_n 0, 1) := by decide +kernel
theorem dX7_mean_37 : decode cX7_mean 37 = .ok (.iload_n 1, 1) := by decide +kernel
theorem dX7_mean_38 : decode cX7_mean 38 = .ok (.invokevirtual 111, 3) := by decide +kernel
theorem dX7_mean_41 : decode cX7_mean 41 = .ok (.lstore 5, 2) := by decide +kernel
theorem dX7_mean_43 : decode cX7_mean 43 = .ok (.lload_n 3, 1) := by decide +kernel
theorem dX7_mean_44 : decode cX7_mean 44 = .ok (.aload_n 0, 1) := by decide +kernel
theorem dX7_mean_45 : decode cX7_mean 45 = .ok (.iload_n 1, 1) := by decide +kernel
theorem dX7_mean_46 : decode cX7_mean 46 = .ok (.invokevirtual 70, 3) := by decide +kernel
theorem dX7_mean_49 : decode cX7_mean 49 = .ok (.i2l, 1) := by decide +kernel
theorem dX7_mean_50 : decode cX7_mean 50 = .ok (.lmul, 1) := by decide +kernel
theorem dX7_mean_51 : decode cX7_mean 51 = .ok (.lstore 7, 2) := by decide +kernel
theorem dX7_mean_53 : decode cX7_mean 53 = .ok (.lload 5, 2) := by decide +kernel
theorem dX7_mean_55 : decode cX7_mean 55 = .ok (.lload 7, 2) := by decide +kernel
theorem dX7_mean_57 : decode cX7_mean 57 = .ok (.invokestatic 95, 3) := by decide +kernel
theorem dX7_mean_60 : decode cX7_mean 60 = .ok (.lstore 9, 2) := by decide +kernel
theorem dX7_mean_62 : decode cX7_mean 62 = .ok (.iload_n 2, 1) := by decide +kernel
theorem dX7_mean_63 : decode cX7_mean 63 = .ok (.ifCond .ne 11, 3) := by decide +kernel
theorem dX7_mean_66 : decode cX7_mean 66 = .ok (.lload 5, 2) := by decide +kernel
theorem dX7_mean_68 : decode cX7_mean 68 = .ok (.lload 9, 2) := by decide +kernel
theorem dX7_mean_70 : decode cX7_mean 70 = .ok (.ldiv, 1) := by decide +kernel
theorem dX7_mean_71 : decode cX7_mean 71 = .ok (.goto 8, 3) := by decide +kernel
theorem dX7_mean_74 : decode cX7_mean 74 = .ok (.lload 7, 2) := by decide +kernel
theorem dX7_mean_76 : decode cX7_mean 76 = .ok (.lload 9, 2) := by decide +kernel
theorem dX7_mean_78 : decode cX7_mean 78 = .ok (.ldiv, 1) := by decide +kernel
theorem dX7_mean_79 : decode cX7_mean 79 = .ok (.lreturn, 1) := by decide +kernel
set_option maxRecDepth 20000 in
theorem ggX7_upper_X7_planShares : GoodIn wsX7_upper wsX7_planShares := goodIn_r _ [7, 1, 8, 34, 35, 36, 37, 38, 39, 40, 41, 42, 43, 44, 45, 46, 47, 48, 49, 50, 51] (by decide +kernel) (by decide +kernel)
set_option maxRecDepth 20000 in
theorem gX7_upper_X7_planShares : GoodIn wsX7_upper (wsV RX7 105 RX7 yX7_planShares wsX7_planShares) := goodIn_app (goodIn_of _ (by decide +kernel)) ggX7_upper_X7_planShares
set_option maxRecDepth 20000 in
theorem ggX7_upper_X7_knownBy : GoodIn wsX7_upper wsX7_knownBy := goodIn_r _ [12, 13, 14, 15, 16, 6, 17, 18, 19, 20, 21, 22, 23, 24, 25, 34, 35, 36, 37, 38, 39, 40, 41, 42, 43, 44, 45, 46, 47, 48, 49, 50, 51] (by decide +kernel) (by decide +kernel)
set_option maxRecDepth 20000 in
theorem gX7_upper_X7_knownBy : GoodIn wsX7_upper (wsV RX7 70 RX7 yX7_knownBy wsX7_knownBy) := goodIn_app (goodIn_of _ (by decide +kernel)) ggX7_upper_X7_knownBy
set_option maxRecDepth 20000 in
theorem ggX7_upper_X7_weighed : GoodIn wsX7_upper wsX7_weighed := goodIn_r _ [29, 1, 8, 30, 31, 32, 6, 33, 13, 14, 15, 16, 17, 18, 19, 20, 21, 22, 23, 24, 25, 34, 35, 36, 37, 38, 39, 40, 41, 42, 43, 44, 45, 46, 47, 48, 49, 50, 51] (by decide +kernel) (by decide +kernel)
set_option maxRecDepth 20000 in
theorem gX7_upper_X7_weighed : GoodIn wsX7_upper (wsV RX7 111 RX7 yX7_weighed wsX7_weighed) := goodIn_app (goodIn_of _ (by decide +kernel)) ggX7_upper_X7_weighed
theorem dX7_upper_0 : decode cX7_upper 0 = .ok (.aload_n 0, 1) := by decide +kernel
theorem dX7_upper_1 : decode cX7_upper 1 = .ok (.invokevirtual 105, 3) := by decide +kernel
theorem dX7_upper_4 : decode cX7_upper 4 = .ok (.lstore_n 1, 1) := by decide +kernel
theorem dX7_upper_5 : decode cX7_upper 5 = .ok (.lload_n 1, 1) := by decide +kernel
theorem dX7_upper_6 : decode cX7_upper 6 = .ok (.lconst 0, 1) := by decide +kernel
theorem dX7_upper_7 : decode cX7_upper 7 = .ok (.lcmp, 1) := by decide +kernel
theorem dX7_upper_8 : decode cX7_upper 8 = .ok (.ifCond .ne 6, 3) := by decide +kernel
theorem dX7_upper_11 : decode cX7_upper 11 = .ok (.bipush (-2), 2) := by decide +kernel
theorem dX7_upper_13 : decode cX7_upper 13 = .ok (.ireturn, 1) := by decide +kernel
theorem dX7_upper_14 : decode cX7_upper 14 = .ok (.lconst 0, 1) := by decide +kernel
theorem dX7_upper_15 : decode cX7_upper 15 = .ok (.lstore_n 3, 1) := by decide +kernel
theorem dX7_upper_16 : decode cX7_upper 16 = .ok (.iconst 1, 1) := by decide +kernel
theorem dX7_upper_17 : decode cX7_upper 17 = .ok (.istore 5, 2) := by decide +kernel
theorem dX7_upper_19 : decode cX7_upper 19 = .ok (.iload 5, 2) := by decide +kernel
theorem dX7_upper_21 : decode cX7_upper 21 = .ok (.aload_n 0, 1) := by decide +kernel
theorem dX7_upper_22 : decode cX7_upper 22 = .ok (.getfield 19, 3) := by decide +kernel
theorem dX7_upper_25 : decode cX7_upper 25 = .ok (.if_icmp .gt 54, 3) := by decide +kernel
theorem dX7_upper_28 : decode cX7_upper 28 = .ok (.lload_n 1, 1) := by decide +kernel
theorem dX7_upper_29 : decode cX7_upper 29 = .ok (.aload_n 0, 1) := by decide +kernel
theorem dX7_upper_30 : decode cX7_upper 30 = .ok (.iload 5, 2) := by decide +kernel
theorem dX7_upper_32 : decode cX7_upper 32 = .ok (.invokevirtual 70, 3) := by decide +kernel
theorem dX7_upper_35 : decode cX7_upper 35 = .ok (.i2l, 1) := by decide +kernel
theorem dX7_upper_36 : decode cX7_upper 36 = .ok (.lmul, 1) := by decide +kernel
theorem dX7_upper_37 : decode cX7_upper 37 = .ok (.lstore 6, 2) := by decide +kernel
theorem dX7_upper_39 : decode cX7_upper 39 = .ok (.ldc2_w 115, 3) := by decide +kernel
theorem dX7_upper_42 : decode cX7_upper 42 = .ok (.aload_n 0, 1) := by decide +kernel
theorem dX7_upper_43 : decode cX7_upper 43 = .ok (.iload 5, 2) := by decide +kernel
theorem dX7_upper_45 : decode cX7_upper 45 = .ok (.invokevirtual 111, 3) := by decide +kernel
theorem dX7_upper_48 : decode cX7_upper 48 = .ok (.lmul, 1) := by decide +kernel
theorem dX7_upper_49 : decode cX7_upper 49 = .ok (.lload 6, 2) := by decide +kernel
theorem dX7_upper_51 : decode cX7_upper 51 = .ok (.ladd, 1) := by decide +kernel
theorem dX7_upper_52 : decode cX7_upper 52 = .ok (.lconst 1, 1) := by decide +kernel
theorem dX7_upper_53 : decode cX7_upper 53 = .ok (.lsub, 1) := by decide +kernel
theorem dX7_upper_54 : decode cX7_upper 54 = .ok (.lload 6, 2) := by decide +kernel
theorem dX7_upper_56 : decode cX7_upper 56 = .ok (.ldiv, 1) := by decide +kernel
theorem dX7_upper_57 : decode cX7_upper 57 = .ok (.lstore 8, 2) := by decide +kernel
theorem dX7_upper_59 : decode cX7_upper 59 = .ok (.lload 8, 2) := by decide +kernel
theorem dX7_upper_61 : decode cX7_upper 61 = .ok (.lload_n 3, 1) := by decide +kernel
theorem dX7_upper_62 : decode cX7_upper 62 = .ok (.lcmp, 1) := by decide +kernel
theorem dX7_upper_63 : decode cX7_upper 63 = .ok (.ifCond .le 8, 3) := by decide +kernel
theorem dX7_upper_66 : decode cX7_upper 66 = .ok (.lload 8, 2) := by decide +kernel
theorem dX7_upper_68 : decode cX7_upper 68 = .ok (.goto 4, 3) := by decide +kernel
theorem dX7_upper_71 : decode cX7_upper 71 = .ok (.lload_n 3, 1) := by decide +kernel
theorem dX7_upper_72 : decode cX7_upper 72 = .ok (.lstore_n 3, 1) := by decide +kernel
theorem dX7_upper_73 : decode cX7_upper 73 = .ok (.iinc 5 1, 3) := by decide +kernel
theorem dX7_upper_76 : decode cX7_upper 76 = .ok (.goto (-57), 3) := by decide +kernel
theorem dX7_upper_79 : decode cX7_upper 79 = .ok (.lload_n 3, 1) := by decide +kernel
theorem dX7_upper_80 : decode cX7_upper 80 = .ok (.l2i, 1) := by decide +kernel
theorem dX7_upper_81 : decode cX7_upper 81 = .ok (.ireturn, 1) := by decide +kernel
set_option maxRecDepth 20000 in
theorem ggX7_lower_X7_costOf : GoodIn wsX7_lower wsX7_costOf := goodIn_r _ [10, 11, 12, 13, 14, 9, 15, 16, 17, 18, 19, 20, 21, 22, 23, 28, 29, 30, 31, 32, 33, 34, 35, 36, 37, 38, 39, 40, 41, 42, 43, 44, 45] (by decide +kernel) (by decide +kernel)
set_option maxRecDepth 20000 in
theorem gX7_lower_X7_costOf : GoodIn wsX7_lower (wsV RX7 88 RX7 yX7_costOf wsX7_costOf) := goodIn_app (goodIn_of _ (by decide +kernel)) ggX7_lower_X7_costOf
set_option maxRecDepth 20000 in
theorem ggX7_lower_X7_knownBy : GoodIn wsX7_lower wsX7_knownBy := goodIn_r _ [27, 11, 12, 13, 14, 9, 15, 16, 17, 18, 19, 20, 21, 22, 23, 28, 29, 30, 31, 32, 33, 34, 35, 36, 37, 38, 39, 40, 41, 42, 43, 44, 45] (by decide +kernel) (by decide +kernel)
set_option maxRecDepth 20000 in
theorem gX7_lower_X7_knownBy : GoodIn wsX7_lower (wsV RX7 70 RX7 yX7_knownBy wsX7_knownBy) := goodIn_app (goodIn_of _ (by decide +kernel)) ggX7_lower_X7_knownBy
theorem dX7_lower_0 : decode cX7_lower 0 = .ok (.lconst 0, 1) := by decide +kernel
theorem dX7_lower_1 : decode cX7_lower 1 = .ok (.lstore_n 1, 1) := by decide +kernel
theorem dX7_lower_2 : decode cX7_lower 2 = .ok (.iconst 1, 1) := by decide +kernel
theorem dX7_lower_3 : decode cX7_lower 3 = .ok (.istore_n 3, 1) := by decide +kernel
theorem dX7_lower_4 : decode cX7_lower 4 = .ok (.iload_n 3, 1) := by decide +kernel
theorem dX7_lower_5 : decode cX7_lower 5 = .ok (.aload_n 0, 1) := by decide +kernel
theorem dX7_lower_6 : decode cX7_lower 6 = .ok (.getfield 19, 3) := by decide +kernel
theorem dX7_lower_9 : decode cX7_lower 9 = .ok (.if_icmp .gt 19, 3) := by decide +kernel
theorem dX7_lower_12 : decode cX7_lower 12 = .ok (.lload_n 1, 1) := by decide +kernel
theorem dX7_lower_13 : decode cX7_lower 13 = .ok (.aload_n 0, 1) := by decide +kernel
theorem dX7_lower_14 : decode cX7_lower 14 = .ok (.getfield 26, 3) := by decide +kernel
theorem dX7_lower_17 : decode cX7_lower 17 = .ok (.iload_n 3, 1) := by decide +kernel
theorem dX7_lower_18 : decode cX7_lower 18 = .ok (.iaload, 1) := by decide +kernel
theorem dX7_lower_19 : decode cX7_lower 19 = .ok (.i2l, 1) := by decide +kernel
theorem dX7_lower_20 : decode cX7_lower 20 = .ok (.ladd, 1) := by decide +kernel
theorem dX7_lower_21 : decode cX7_lower 21 = .ok (.lstore_n 1, 1) := by decide +kernel
theorem dX7_lower_22 : decode cX7_lower 22 = .ok (.iinc 3 1, 3) := by decide +kernel
theorem dX7_lower_25 : decode cX7_lower 25 = .ok (.goto (-21), 3) := by decide +kernel
theorem dX7_lower_28 : decode cX7_lower 28 = .ok (.lload_n 1, 1) := by decide +kernel
theorem dX7_lower_29 : decode cX7_lower 29 = .ok (.lconst 0, 1) := by decide +kernel
theorem dX7_lower_30 : decode cX7_lower 30 = .ok (.lcmp, 1) := by decide +kernel
theorem dX7_lower_31 : decode cX7_lower 31 = .ok (.ifCond .ne 6, 3) := by decide +kernel
theorem dX7_lower_34 : decode cX7_lower 34 = .ok (.bipush (-2), 2) := by decide +kernel
theorem dX7_lower_36 : decode cX7_lower 36 = .ok (.ireturn, 1) := by decide +kernel
theorem dX7_lower_37 : decode cX7_lower 37 = .ok (.ldc2_w 103, 3) := by decide +kernel
theorem dX7_lower_40 : decode cX7_lower 40 = .ok (.lstore_n 3, 1) := by decide +kernel
theorem dX7_lower_41 : decode cX7_lower 41 = .ok (.iconst 1, 1) := by decide +kernel
theorem dX7_lower_42 : decode cX7_lower 42 = .ok (.istore 5, 2) := by decide +kernel
theorem dX7_lower_44 : decode cX7_lower 44 = .ok (.iload 5, 2) := by decide +kernel
theorem dX7_lower_46 : decode cX7_lower 46 = .ok (.aload_n 0, 1) := by decide +kernel
theorem dX7_lower_47 : decode cX7_lower 47 = .ok (.getfield 19, 3) := by decide +kernel
theorem dX7_lower_50 : decode cX7_lower 50 = .ok (.iconst 1, 1) := by decide +kernel
theorem dX7_lower_51 : decode cX7_lower 51 = .ok (.iadd, 1) := by decide +kernel
theorem dX7_lower_52 : decode cX7_lower 52 = .ok (.if_icmp .gt 85, 3) := by decide +kernel
theorem dX7_lower_55 : decode cX7_lower 55 = .ok (.lconst 0, 1) := by decide +kernel
theorem dX7_lower_56 : decode cX7_lower 56 = .ok (.lstore 6, 2) := by decide +kernel
theorem dX7_lower_58 : decode cX7_lower 58 = .ok (.iconst 1, 1) := by decide +kernel
theorem dX7_lower_59 : decode cX7_lower 59 = .ok (.istore 8, 2) := by decide +kernel
theorem dX7_lower_61 : decode cX7_lower 61 = .ok (.iload 8, 2) := by decide +kernel
theorem dX7_lower_63 : decode cX7_lower 63 = .ok (.aload_n 0, 1) := by decide +kernel
theorem dX7_lower_64 : decode cX7_lower 64 = .ok (.getfield 19, 3) := by decide +kernel
theorem dX7_lower_67 : decode cX7_lower 67 = .ok (.if_icmp .gt 44, 3) := by decide +kernel
theorem dX7_lower_70 : decode cX7_lower 70 = .ok (.lload 6, 2) := by decide +kernel
theorem dX7_lower_72 : decode cX7_lower 72 = .ok (.aload_n 0, 1) := by decide +kernel
theorem dX7_lower_73 : decode cX7_lower 73 = .ok (.getfield 26, 3) := by decide +kernel
theorem dX7_lower_76 : decode cX7_lower 76 = .ok (.iload 8, 2) := by decide +kernel
theorem dX7_lower_78 : decode cX7_lower 78 = .ok (.iaload, 1) := by decide +kernel
theorem dX7_lower_79 : decode cX7_lower 79 = .ok (.i2l, 1) := by decide +kernel
theorem dX7_lower_80 : decode cX7_lower 80 = .ok (.ldc2_w 117, 3) := by decide +kernel
theorem dX7_lower_83 : decode cX7_lower 83 = .ok (.aload_n 0, 1) := by decide +kernel
theorem dX7_lower_84 : decode cX7_lower 84 = .ok (.iload 5, 2) := by decide +kernel
theorem dX7_lower_86 : decode cX7_lower 86 = .ok (.iload 8, 2) := by decide +kernel
theorem dX7_lower_88 : decode cX7_lower 88 = .ok (.invokevirtual 88, 3) := by decide +kernel
theorem dX7_lower_91 : decode cX7_lower 91 = .ok (.i2l, 1) := by decide +kernel
theorem dX7_lower_92 : decode cX7_lower 92 = .ok (.lmul, 1) := by decide +kernel
theorem dX7_lower_93 : decode cX7_lower 93 = .ok (.aload_n 0, 1) := by decide +kernel
theorem dX7_lower_94 : decode cX7_lower 94 = .ok (.iload 8, 2) := by decide +kernel
theorem dX7_lower_96 : decode cX7_lower 96 = .ok (.invokevirtual 70, 3) := by decide +kernel
theorem dX7_lower_99 : decode cX7_lower 99 = .ok (.i2l, 1) := by decide +kernel
theorem dX7_lower_100 : decode cX7_lower 100 = .ok (.ldiv, 1) := by decide +kernel
theorem dX7_lower_101 : decode cX7_lower 101 = .ok (.lmul, 1) := by decide +kernel
theorem dX7_lower_102 : decode cX7_lower 102 = .ok (.ladd, 1) := by decide +kernel
theorem dX7_lower_103 : decode cX7_lower 103 = .ok (.lstore 6, 2) := by decide +kernel
theorem dX7_lower_105 : decode cX7_lower 105 = .ok (.iinc 8 1, 3) := by decide +kernel
theorem dX7_lower_108 : decode cX7_lower 108 = .ok (.goto (-47), 3) := by decide +kernel
theorem dX7_lower_111 : decode cX7_lower 111 = .ok (.lload_n 3, 1) := by decide +kernel
theorem dX7_lower_112 : decode cX7_lower 112 = .ok (.lconst 0, 1) := by decide +kernel
theorem dX7_lower_113 : decode cX7_lower 113 = .ok (.lcmp, 1) := by decide +kernel
theorem dX7_lower_114 : decode cX7_lower 114 = .ok (.ifCond .lt 10, 3) := by decide +kernel
theorem dX7_lower_117 : decode cX7_lower 117 = .ok (.lload 6, 2) := by decide +kernel
theorem dX7_lower_119 : decode cX7_lower 119 = .ok (.lload_n 3, 1) := by decide +kernel
theorem dX7_lower_120 : decode cX7_lower 120 = .ok (.lcmp, 1) := by decide +kernel
theorem dX7_lower_121 : decode cX7_lower 121 = .ok (.ifCond .ge 8, 3) := by decide +kernel
theorem dX7_lower_124 : decode cX7_lower 124 = .ok (.lload 6, 2) := by decide +kernel
theorem dX7_lower_126 : decode cX7_lower 126 = .ok (.goto 4, 3) := by decide +kernel
theorem dX7_lower_129 : decode cX7_lower 129 = .ok (.lload_n 3, 1) := by decide +kernel
theorem dX7_lower_130 : decode cX7_lower 130 = .ok (.lstore_n 3, 1) := by decide +kernel
theorem dX7_lower_131 : decode cX7_lower 131 = .ok (.iinc 5 1, 3) := by decide +kernel
theorem dX7_lower_134 : decode cX7_lower 134 = .ok (.goto (-90), 3) := by decide +kernel
theorem dX7_lower_137 : decode cX7_lower 137 = .ok (.lload_n 3, 1) := by decide +kernel
theorem dX7_lower_138 : decode cX7_lower 138 = .ok (.ldc2_w 115, 3) := by decide +kernel
theorem dX7_lower_141 : decode cX7_lower 141 = .ok (.lload_n 1, 1) := by decide +kernel
theorem dX7_lower_142 : decode cX7_lower 142 = .ok (.lmul, 1) := by decide +kernel
theorem dX7_lower_143 : decode cX7_lower 143 = .ok (.ldiv, 1) := by decide +kernel
theorem dX7_lower_144 : decode cX7_lower 144 = .ok (.l2i, 1) := by decide +kernel
theorem dX7_lower_145 : decode cX7_lower 145 = .ok (.ireturn, 1) := by decide +kernel
set_option maxRecDepth 20000 in
theorem ggX7_bound_X7_in : GoodIn wsX7_bound wsX7_in := goodIn_r _ [4] (by decide +kernel) (by decide +kernel)
set_option maxRecDepth 20000 in
theorem gX7_bound_X7_in : GoodIn wsX7_bound (va_wsS RX7 66 yX7_in wsX7_in) := goodIn_app (goodIn_of _ (by decide +kernel)) ggX7_bound_X7_in
set_option maxRecDepth 20000 in
theorem ggX7_bound_X7_upper : GoodIn wsX7_bound wsX7_upper := goodIn_r _ [8, 9, 10, 11, 12, 13, 3, 14, 15, 16, 17, 18, 19, 20, 21, 22, 23, 24, 25, 26, 27, 28, 29, 30, 31, 32, 33, 34, 35, 36, 37, 38, 39, 40, 48, 49, 50, 51, 52, 53, 54, 55, 56, 57, 58, 59, 60, 61, 62, 63, 64, 65] (by decide +kernel) (by decide +kernel)
set_option maxRecDepth 20000 in
theorem gX7_bound_X7_upper : GoodIn wsX7_bound (wsV RX7 119 RX7 yX7_upper wsX7_upper) := goodIn_app (goodIn_of _ (by decide +kernel)) ggX7_bound_X7_upper
set_option maxRecDepth 20000 in
theorem ggX7_bound_X7_lower : GoodIn wsX7_bound wsX7_lower := goodIn_r _ [44, 9, 45, 46, 47, 10, 37, 38, 39, 3, 40, 20, 21, 22, 23, 24, 25, 26, 27, 28, 29, 30, 31, 32, 16, 17, 18, 19, 48, 49, 50, 51, 52, 53, 54, 55, 56, 57, 58, 59, 60, 61, 62, 63, 64, 65] (by decide +kernel) (by decide +kernel)
set_option maxRecDepth 20000 in
theorem gX7_bound_X7_lower : GoodIn wsX7_bound (wsV RX7 122 RX7 yX7_lower wsX7_lower) := goodIn_app (goodIn_of _ (by decide +kernel)) ggX7_bound_X7_lower
theorem dX7_bound_0 : decode cX7_bound 0 = .ok (.iload_n 1, 1) := by decide +kernel
theorem dX7_bound_1 : decode cX7_bound 1 = .ok (.iconst 0, 1) := by decide +kernel
theorem dX7_bound_2 : decode cX7_bound 2 = .ok (.iconst 1, 1) := by decide +kernel
theorem dX7_bound_3 : decode cX7_bound 3 = .ok (.invokestatic 66, 3) := by decide +kernel
theorem dX7_bound_6 : decode cX7_bound 6 = .ok (.ifCond .ne 7, 3) := by decide +kernel
theorem dX7_bound_9 : decode cX7_bound 9 = .ok (.iconst (-1), 1) := by decide +kernel
theorem dX7_bound_10 : decode cX7_bound 10 = .ok (.goto 18, 3) := by decide +kernel
theorem dX7_bound_13 : decode cX7_bound 13 = .ok (.iload_n 1, 1) := by decide +kernel
theorem dX7_bound_14 : decode cX7_bound 14 = .ok (.ifCond .ne 10, 3) := by decide +kernel
theorem dX7_bound_17 : decode cX7_bound 17 = .ok (.aload_n 0, 1) := by decide +kernel
theorem dX7_bound_18 : decode cX7_bound 18 = .ok (.invokevirtual 119, 3) := by decide +kernel
theorem dX7_bound_21 : decode cX7_bound 21 = .ok (.goto 7, 3) := by decide +kernel
theorem dX7_bound_24 : decode cX7_bound 24 = .ok (.aload_n 0, 1) := by decide +kernel
theorem dX7_bound_25 : decode cX7_bound 25 = .ok (.invokevirtual 122, 3) := by decide +kernel
theorem dX7_bound_28 : decode cX7_bound 28 = .ok (.ireturn, 1) := by decide +kernel
set_option maxRecDepth 20000 in
theorem ggX7_isTrust_X7_in : GoodIn wsX7_isTrust wsX7_in := goodIn_r _ [4] (by decide +kernel) (by decide +kernel)
set_option maxRecDepth 20000 in
theorem gX7_isTrust_X7_in : GoodIn wsX7_isTrust (va_wsS RX7 66 yX7_in wsX7_in) := goodIn_app (goodIn_of _ (by decide +kernel)) ggX7_isTrust_X7_in
theorem dX7_isTrust_0 : decode cX7_isTrust 0 = .ok (.iload_n 0, 1) := by decide +kernel
theorem dX7_isTrust_1 : decode cX7_isTrust 1 = .ok (.iconst 1, 1) := by decide +kernel
theorem dX7_isTrust_2 : decode cX7_isTrust 2 = .ok (.bipush 9, 2) := by decide +kernel
theorem dX7_isTrust_4 : decode cX7_isTrust 4 = .ok (.invokestatic 66, 3) := by decide +kernel
theorem dX7_isTrust_7 : decode cX7_isTrust 7 = .ok (.ireturn, 1) := by decide +kernel
set_option maxRecDepth 20000 in
theorem ggX7_planBy_X7_surePlan : GoodIn wsX7_planBy wsX7_surePlan := goodIn_r _ [7, 2, 8, 9, 10, 6, 11, 12, 13, 14, 15, 1, 16, 17, 18, 19, 20, 21, 22, 23, 24, 25, 26, 27, 28, 29, 30, 31, 32, 33, 34, 35, 36, 37, 38, 39, 40, 41, 42, 43, 44, 45, 46, 47, 48, 49] (by decide +kernel) (by decide +kernel)
set_option maxRecDepth 20000 in
theorem gX7_planBy_X7_surePlan : GoodIn wsX7_planBy (wsV RX7 99 RX7 yX7_surePlan wsX7_surePlan) := goodIn_app (goodIn_of _ (by decide +kernel)) ggX7_planBy_X7_surePlan
set_option maxRecDepth 20000 in
theorem ggX7_planBy_X7_rentsTo : GoodIn wsX7_planBy wsX7_rentsTo := goodIn_r _ [19, 20, 21, 22, 6, 23, 24, 25, 26, 27, 32, 33, 34, 35, 36, 37, 38, 39, 40, 41, 42, 43, 44, 45, 46, 47, 48, 49] (by decide +kernel) (by decide +kernel)
set_option maxRecDepth 20000 in
theorem gX7_planBy_X7_rentsTo : GoodIn wsX7_planBy (wsV RX7 63 RX7 yX7_rentsTo wsX7_rentsTo) := goodIn_app (goodIn_of _ (by decide +kernel)) ggX7_planBy_X7_rentsTo
theorem dX7_planBy_0 : decode cX7_planBy 0 = .ok (.aload_n 0, 1) := by decide +kernel
theorem dX7_planBy_1 : decode cX7_planBy 1 = .ok (.invokevirtual 99, 3) := by decide +kernel
theorem dX7_planBy_4 : decode cX7_planBy 4 = .ok (.istore_n 3, 1) := by decide +kernel
theorem dX7_planBy_5 : decode cX7_planBy 5 = .ok (.aload_n 0, 1) := by decide +kernel
theorem dX7_planBy_6 : decode cX7_planBy 6 = .ok (.getfield 16, 3) := by decide +kernel
theorem dX7_planBy_9 : decode cX7_planBy 9 = .ok (.aload_n 0, 1) := by decide +kernel
theorem dX7_planBy_10 : decode cX7_planBy 10 = .ok (.iload_n 1, 1) := by decide +kernel
theorem dX7_planBy_11 : decode cX7_planBy 11 = .ok (.invokevirtual 63, 3) := by decide +kernel
theorem dX7_planBy_14 : decode cX7_planBy 14 = .ok (.if_icmp .ge 13, 3) := by decide +kernel
theorem dX7_planBy_17 : decode cX7_planBy 17 = .ok (.iload_n 3, 1) := by decide +kernel
theorem dX7_planBy_18 : decode cX7_planBy 18 = .ok (.iload_n 2, 1) := by decide +kernel
theorem dX7_planBy_19 : decode cX7_planBy 19 = .ok (.imul, 1) := by decide +kernel
theorem dX7_planBy_20 : decode cX7_planBy 20 = .ok (.bipush 9, 2) := by decide +kernel
theorem dX7_planBy_22 : decode cX7_planBy 22 = .ok (.iadd, 1) := by decide +kernel
theorem dX7_planBy_23 : decode cX7_planBy 23 = .ok (.bipush 10, 2) := by decide +kernel
theorem dX7_planBy_25 : decode cX7_planBy 25 = .ok (.idiv, 1) := by decide +kernel
theorem dX7_planBy_26 : decode cX7_planBy 26 = .ok (.ireturn, 1) := by decide +kernel
theorem dX7_planBy_27 : decode cX7_planBy 27 = .ok (.iload_n 3, 1) := by decide +kernel
theorem dX7_planBy_28 : decode cX7_planBy 28 = .ok (.bipush 10, 2) := by decide +kernel
theorem dX7_planBy_30 : decode cX7_planBy 30 = .ok (.imul, 1) := by decide +kernel
theorem dX7_planBy_31 : decode cX7_planBy 31 = .ok (.iload_n 2, 1) := by decide +kernel
theorem dX7_planBy_32 : decode cX7_planBy 32 = .ok (.idiv, 1) := by decide +kernel
theorem dX7_planBy_33 : decode cX7_planBy 33 = .ok (.istore 4, 2) := by decide +kernel
theorem dX7_planBy_35 : decode cX7_planBy 35 = .ok (.iload 4, 2) := by decide +kernel
theorem dX7_planBy_37 : decode cX7_planBy 37 = .ok (.aload_n 0, 1) := by decide +kernel
theorem dX7_planBy_38 : decode cX7_planBy 38 = .ok (.getfield 19, 3) := by decide +kernel
theorem dX7_planBy_41 : decode cX7_planBy 41 = .ok (.iconst 1, 1) := by decide +kernel
theorem dX7_planBy_42 : decode cX7_planBy 42 = .ok (.iadd, 1) := by decide +kernel
theorem dX7_planBy_43 : decode cX7_planBy 43 = .ok (.if_icmp .le 12, 3) := by decide +kernel
theorem dX7_planBy_46 : decode cX7_planBy 46 = .ok (.aload_n 0, 1) := by decide +kernel
theorem dX7_planBy_47 : decode cX7_planBy 47 = .ok (.getfield 19, 3) := by decide +kernel
theorem dX7_planBy_50 : decode cX7_planBy 50 = .ok (.iconst 1, 1) := by decide +kernel
theorem dX7_planBy_51 : decode cX7_planBy 51 = .ok (.iadd, 1) := by decide +kernel
theorem dX7_planBy_52 : decode cX7_planBy 52 = .ok (.goto 5, 3) := by decide +kernel
theorem dX7_planBy_55 : decode cX7_planBy 55 = .ok (.iload 4, 2) := by decide +kernel
theorem dX7_planBy_57 : decode cX7_planBy 57 = .ok (.ireturn, 1) := by decide +kernel
set_option maxRecDepth 20000 in
theorem ggX7_guess_X7_isEnd : GoodIn wsX7_guess wsX7_isEnd := goodIn_r _ [5, 6, 7, 8, 4, 9, 46, 47, 48, 49, 50, 51, 52, 53, 54, 55, 56, 57, 58, 59, 60, 61, 62, 63] (by decide +kernel) (by decide +kernel)
set_option maxRecDepth 20000 in
theorem gX7_guess_X7_isEnd : GoodIn wsX7_guess (wsV RX7 85 RX7 yX7_isEnd wsX7_isEnd) := goodIn_app (goodIn_of _ (by decide +kernel)) ggX7_guess_X7_isEnd
set_option maxRecDepth 20000 in
theorem ggX7_guess_X7_isTrust : GoodIn wsX7_guess wsX7_isTrust := goodIn_r _ [12, 7, 8, 4, 9] (by decide +kernel) (by decide +kernel)
set_option maxRecDepth 20000 in
theorem gX7_guess_X7_isTrust : GoodIn wsX7_guess (va_wsS RX7 125 yX7_isTrust wsX7_isTrust) := goodIn_app (goodIn_of _ (by decide +kernel)) ggX7_guess_X7_isTrust
set_option maxRecDepth 20000 in
theorem ggX7_guess_X7_planBy : GoodIn wsX7_guess wsX7_planBy := goodIn_r _ [16, 17, 6, 18, 19, 20, 4, 21, 22, 23, 24, 25, 26, 27, 28, 29, 30, 31, 32, 33, 34, 35, 36, 37, 38, 39, 40, 41, 42, 43, 44, 45, 46, 47, 48, 49, 50, 51, 52, 53, 54, 55, 56, 57, 58, 59, 60, 61, 62, 63] (by decide +kernel) (by decide +kernel)
set_option maxRecDepth 20000 in
theorem gX7_guess_X7_planBy : GoodIn wsX7_guess (wsV RX7 128 RX7 yX7_planBy wsX7_planBy) := goodIn_app (goodIn_of _ (by decide +kernel)) ggX7_guess_X7_planBy
theorem dX7_guess_0 : decode cX7_guess 0 = .ok (.aload_n 0, 1) := by decide +kernel
theorem dX7_guess_1 : decode cX7_guess 1 = .ok (.iload_n 1, 1) := by decide +kernel
theorem dX7_guess_2 : decode cX7_guess 2 = .ok (.invokevirtual 85, 3) := by decide +kernel
theorem dX7_guess_5 : decode cX7_guess 5 = .ok (.ifCond .eq 19, 3) := by decide +kernel
theorem dX7_guess_8 : decode cX7_guess 8 = .ok (.iload_n 2, 1) := by decide +kernel
theorem dX7_guess_9 : decode cX7_guess 9 = .ok (.invokestatic 125, 3) := by decide +kernel
theorem dX7_guess_12 : decode cX7_guess 12 = .ok (.ifCond .eq 12, 3) := by decide +kernel
theorem dX7_guess_15 : decode cX7_guess 15 = .ok (.aload_n 0, 1) := by decide +kernel
theorem dX7_guess_16 : decode cX7_guess 16 = .ok (.iload_n 1, 1) := by decide +kernel
theorem dX7_guess_17 : decode cX7_guess 17 = .ok (.iload_n 2, 1) := by decide +kernel
theorem dX7_guess_18 : decode cX7_guess 18 = .ok (.invokevirtual 128, 3) := by decide +kernel
theorem dX7_guess_21 : decode cX7_guess 21 = .ok (.goto 4, 3) := by decide +kernel
theorem dX7_guess_24 : decode cX7_guess 24 = .ok (.iconst (-1), 1) := by decide +kernel
theorem dX7_guess_25 : decode cX7_guess 25 = .ok (.ireturn, 1) := by decide +kernel
set_option maxRecDepth 20000 in
theorem ggX7_trust_X7_isEnd : GoodIn wsX7_trust wsX7_isEnd := goodIn_r _ [5, 6, 7, 8, 4, 9, 57, 58, 59, 60, 61, 62, 63, 64, 65, 66, 67, 68, 69, 70, 71, 72, 73, 74] (by decide +kernel) (by decide +kernel)
set_option maxRecDepth 20000 in
theorem gX7_trust_X7_isEnd : GoodIn wsX7_trust (wsV RX7 85 RX7 yX7_isEnd wsX7_isEnd) := goodIn_app (goodIn_of _ (by decide +kernel)) ggX7_trust_X7_isEnd
set_option maxRecDepth 20000 in
theorem ggX7_trust_X7_isTrust : GoodIn wsX7_trust wsX7_isTrust := goodIn_r _ [12, 7, 8, 4, 9] (by decide +kernel) (by decide +kernel)
set_option maxRecDepth 20000 in
theorem gX7_trust_X7_isTrust : GoodIn wsX7_trust (va_wsS RX7 125 yX7_isTrust wsX7_isTrust) := goodIn_app (goodIn_of _ (by decide +kernel)) ggX7_trust_X7_isTrust
set_option maxRecDepth 20000 in
theorem ggX7_trust_X7_in : GoodIn wsX7_trust wsX7_in := goodIn_r _ [9] (by decide +kernel) (by decide +kernel)
set_option maxRecDepth 20000 in
theorem gX7_trust_X7_in : GoodIn wsX7_trust (va_wsS RX7 66 yX7_in wsX7_in) := goodIn_app (goodIn_of _ (by decide +kernel)) ggX7_trust_X7_in
set_option maxRecDepth 20000 in
theorem ggX7_trust_X7_planBy : GoodIn wsX7_trust wsX7_planBy := goodIn_r _ [16, 17, 6, 18, 19, 20, 4, 21, 22, 23, 24, 25, 26, 27, 28, 29, 30, 31, 32, 33, 34, 35, 36, 37, 38, 39, 40, 41, 42, 43, 44, 45, 57, 58, 59, 60, 61, 62, 63, 64, 65, 66, 67, 68, 69, 70, 71, 72, 73, 74] (by decide +kernel) (by decide +kernel)
set_option maxRecDepth 20000 in
theorem gX7_trust_X7_planBy : GoodIn wsX7_trust (wsV RX7 128 RX7 yX7_planBy wsX7_planBy) := goodIn_app (goodIn_of _ (by decide +kernel)) ggX7_trust_X7_planBy
set_option maxRecDepth 20000 in
theorem ggX7_trust_X7_ratio : GoodIn wsX7_trust wsX7_ratio := goodIn_r _ [49, 50, 51, 52, 4, 53, 6, 7, 8, 9, 1, 2, 3, 5, 22, 23, 24, 25, 26, 27, 28, 29, 17, 30, 31, 32, 33, 34, 35, 36, 37, 38, 39, 40, 41, 42, 43, 44, 45, 54, 55, 56, 57, 58, 59, 60, 61, 62, 63, 64, 65, 66, 67, 68, 69, 70, 71, 72, 73, 74] (by decide +kernel) (by decide +kernel)
set_option maxRecDepth 20000 in
theorem gX7_trust_X7_ratio : GoodIn wsX7_trust (wsV RX7 131 RX7 yX7_ratio wsX7_ratio) := goodIn_app (goodIn_of _ (by decide +kernel)) ggX7_trust_X7_ratio
theorem dX7_trust_0 : decode cX7_trust 0 = .ok (.aload_n 0, 1) := by decide +kernel
theorem dX7_trust_1 : decode cX7_trust 1 = .ok (.iload_n 1, 1) := by decide +kernel
theorem dX7_trust_2 : decode cX7_trust 2 = .ok (.invokevirtual 85, 3) := by decide +kernel
theorem dX7_trust_5 : decode cX7_trust 5 = .ok (.ifCond .eq 29, 3) := by decide +kernel
theorem dX7_trust_8 : decode cX7_trust 8 = .ok (.iload_n 2, 1) := by decide +kernel
theorem dX7_trust_9 : decode cX7_trust 9 = .ok (.invokestatic 125, 3) := by decide +kernel
theorem dX7_trust_12 : decode cX7_trust 12 = .ok (.ifCond .eq 22, 3) := by decide +kernel
theorem dX7_trust_15 : decode cX7_trust 15 = .ok (.iload_n 3, 1) := by decide +kernel
theorem dX7_trust_16 : decode cX7_trust 16 = .ok (.iconst 0, 1) := by decide +kernel
theorem dX7_trust_17 : decode cX7_trust 17 = .ok (.iconst 1, 1) := by decide +kernel
theorem dX7_trust_18 : decode cX7_trust 18 = .ok (.invokestatic 66, 3) := by decide +kernel
theorem dX7_trust_21 : decode cX7_trust 21 = .ok (.ifCond .eq 13, 3) := by decide +kernel
theorem dX7_trust_24 : decode cX7_trust 24 = .ok (.iload 4, 2) := by decide +kernel
theorem dX7_trust_26 : decode cX7_trust 26 = .ok (.iconst 0, 1) := by decide +kernel
theorem dX7_trust_27 : decode cX7_trust 27 = .ok (.iconst 1, 1) := by decide +kernel
theorem dX7_trust_28 : decode cX7_trust 28 = .ok (.invokestatic 66, 3) := by decide +kernel
theorem dX7_trust_31 : decode cX7_trust 31 = .ok (.ifCond .ne 5, 3) := by decide +kernel
theorem dX7_trust_34 : decode cX7_trust 34 = .ok (.iconst (-1), 1) := by decide +kernel
theorem dX7_trust_35 : decode cX7_trust 35 = .ok (.ireturn, 1) := by decide +kernel
theorem dX7_trust_36 : decode cX7_trust 36 = .ok (.aload_n 0, 1) := by decide +kernel
theorem dX7_trust_37 : decode cX7_trust 37 = .ok (.aload_n 0, 1) := by decide +kernel
theorem dX7_trust_38 : decode cX7_trust 38 = .ok (.iload_n 1, 1) := by decide +kernel
theorem dX7_trust_39 : decode cX7_trust 39 = .ok (.iload_n 2, 1) := by decide +kernel
theorem dX7_trust_40 : decode cX7_trust 40 = .ok (.invokevirtual 128, 3) := by decide +kernel
theorem dX7_trust_43 : decode cX7_trust 43 = .ok (.iload_n 3, 1) := by decide +kernel
theorem dX7_trust_44 : decode cX7_trust 44 = .ok (.ifCond .ne 7, 3) := by decide +kernel
theorem dX7_trust_47 : decode cX7_trust 47 = .ok (.iload_n 1, 1) := by decide +kernel
theorem dX7_trust_48 : decode cX7_trust 48 = .ok (.goto 4, 3) := by decide +kernel
theorem dX7_trust_51 : decode cX7_trust 51 = .ok (.iconst 0, 1) := by decide +kernel
theorem dX7_trust_52 : decode cX7_trust 52 = .ok (.iload 4, 2) := by decide +kernel
theorem dX7_trust_54 : decode cX7_trust 54 = .ok (.invokevirtual 131, 3) := by decide +kernel
theorem dX7_trust_57 : decode cX7_trust 57 = .ok (.ireturn, 1) := by decide +kernel
set_option maxRecDepth 20000 in
theorem ggX7_list_X7_in : GoodIn wsX7_list wsX7_in := goodIn_r _ [6] (by decide +kernel) (by decide +kernel)
set_option maxRecDepth 20000 in
theorem gX7_list_X7_in : GoodIn wsX7_list (va_wsS RX7 66 yX7_in wsX7_in) := goodIn_app (goodIn_of _ (by decide +kernel)) ggX7_list_X7_in
theorem dX7_list_0 : decode cX7_list 0 = .ok (.iload_n 1, 1) := by decide +kernel
theorem dX7_list_1 : decode cX7_list 1 = .ok (.iconst 1, 1) := by decide +kernel
theorem dX7_list_2 : decode cX7_list 2 = .ok (.iconst 4, 1) := by decide +kernel
theorem dX7_list_3 : decode cX7_list 3 = .ok (.invokestatic 66, 3) := by decide +kernel
theorem dX7_list_6 : decode cX7_list 6 = .ok (.ifCond .ne 5, 3) := by decide +kernel
theorem dX7_list_9 : decode cX7_list 9 = .ok (.iconst (-1), 1) := by decide +kernel
theorem dX7_list_10 : decode cX7_list 10 = .ok (.ireturn, 1) := by decide +kernel
theorem dX7_list_11 : decode cX7_list 11 = .ok (.aload_n 0, 1) := by decide +kernel
theorem dX7_list_12 : decode cX7_list 12 = .ok (.getfield 29, 3) := by decide +kernel
theorem dX7_list_15 : decode cX7_list 15 = .ok (.istore_n 2, 1) := by decide +kernel
theorem dX7_list_16 : decode cX7_list 16 = .ok (.aload_n 0, 1) := by decide +kernel
theorem dX7_list_17 : decode cX7_list 17 = .ok (.iload_n 1, 1) := by decide +kernel
theorem dX7_list_18 : decode cX7_list 18 = .ok (.putfield 29, 3) := by decide +kernel
theorem dX7_list_21 : decode cX7_list 21 = .ok (.aload_n 0, 1) := by decide +kernel
theorem dX7_list_22 : decode cX7_list 22 = .ok (.iconst 0, 1) := by decide +kernel
theorem dX7_list_23 : decode cX7_list 23 = .ok (.putfield 50, 3) := by decide +kernel
theorem dX7_list_26 : decode cX7_list 26 = .ok (.iload_n 2, 1) := by decide +kernel
theorem dX7_list_27 : decode cX7_list 27 = .ok (.ireturn, 1) := by decide +kernel
set_option maxRecDepth 20000 in
theorem ggX7_request_X7_in : GoodIn wsX7_request wsX7_in := goodIn_r _ [7] (by decide +kernel) (by decide +kernel)
set_option maxRecDepth 20000 in
theorem gX7_request_X7_in : GoodIn wsX7_request (va_wsS RX7 66 yX7_in wsX7_in) := goodIn_app (goodIn_of _ (by decide +kernel)) ggX7_request_X7_in
theorem dX7_request_0 : decode cX7_request 0 = .ok (.iload_n 1, 1) := by decide +kernel
theorem dX7_request_1 : decode cX7_request 1 = .ok (.iconst 0, 1) := by decide +kernel
theorem dX7_request_2 : decode cX7_request 2 = .ok (.aload_n 0, 1) := by decide +kernel
theorem dX7_request_3 : decode cX7_request 3 = .ok (.getfield 29, 3) := by decide +kernel
theorem dX7_request_6 : decode cX7_request 6 = .ok (.iconst 1, 1) := by decide +kernel
theorem dX7_request_7 : decode cX7_request 7 = .ok (.isub, 1) := by decide +kernel
theorem dX7_request_8 : decode cX7_request 8 = .ok (.invokestatic 66, 3) := by decide +kernel
theorem dX7_request_11 : decode cX7_request 11 = .ok (.ifCond .ne 5, 3) := by decide +kernel
theorem dX7_request_14 : decode cX7_request 14 = .ok (.iconst (-1), 1) := by decide +kernel
theorem dX7_request_15 : decode cX7_request 15 = .ok (.ireturn, 1) := by decide +kernel
theorem dX7_request_16 : decode cX7_request 16 = .ok (.aload_n 0, 1) := by decide +kernel
theorem dX7_request_17 : decode cX7_request 17 = .ok (.getfield 50, 3) := by decide +kernel
theorem dX7_request_20 : decode cX7_request 20 = .ok (.bipush 16, 2) := by decide +kernel
theorem dX7_request_22 : decode cX7_request 22 = .ok (.if_icmp .ne 6, 3) := by decide +kernel
theorem dX7_request_25 : decode cX7_request 25 = .ok (.bipush (-3), 2) := by decide +kernel
theorem dX7_request_27 : decode cX7_request 27 = .ok (.ireturn, 1) := by decide +kernel
theorem dX7_request_28 : decode cX7_request 28 = .ok (.aload_n 0, 1) := by decide +kernel
theorem dX7_request_29 : decode cX7_request 29 = .ok (.getfield 32, 3) := by decide +kernel
theorem dX7_request_32 : decode cX7_request 32 = .ok (.aload_n 0, 1) := by decide +kernel
theorem dX7_request_33 : decode cX7_request 33 = .ok (.getfield 50, 3) := by decide +kernel
theorem dX7_request_36 : decode cX7_request 36 = .ok (.iload_n 1, 1) := by decide +kernel
theorem dX7_request_37 : decode cX7_request 37 = .ok (.iastore, 1) := by decide +kernel
theorem dX7_request_38 : decode cX7_request 38 = .ok (.aload_n 0, 1) := by decide +kernel
theorem dX7_request_39 : decode cX7_request 39 = .ok (.dup, 1) := by decide +kernel
theorem dX7_request_40 : decode cX7_request 40 = .ok (.getfield 50, 3) := by decide +kernel
theorem dX7_request_43 : decode cX7_request 43 = .ok (.iconst 1, 1) := by decide +kernel
theorem dX7_request_44 : decode cX7_request 44 = .ok (.iadd, 1) := by decide +kernel
theorem dX7_request_45 : decode cX7_request 45 = .ok (.putfield 50, 3) := by decide +kernel
theorem dX7_request_48 : decode cX7_request 48 = .ok (.aload_n 0, 1) := by decide +kernel
theorem dX7_request_49 : decode cX7_request 49 = .ok (.getfield 50, 3) := by decide +kernel
theorem dX7_request_52 : decode cX7_request 52 = .ok (.ireturn, 1) := by decide +kernel
theorem dX7_drop_0 : decode cX7_drop 0 = .ok (.aload_n 0, 1) := by decide +kernel
theorem dX7_drop_1 : decode cX7_drop 1 = .ok (.getfield 50, 3) := by decide +kernel
theorem dX7_drop_4 : decode cX7_drop 4 = .ok (.ifCond .ne 6, 3) := by decide +kernel
theorem dX7_drop_7 : decode cX7_drop 7 = .ok (.bipush (-2), 2) := by decide +kernel
theorem dX7_drop_9 : decode cX7_drop 9 = .ok (.ireturn, 1) := by decide +kernel
theorem dX7_drop_10 : decode cX7_drop 10 = .ok (.aload_n 0, 1) := by decide +kernel
theorem dX7_drop_11 : decode cX7_drop 11 = .ok (.dup, 1) := by decide +kernel
theorem dX7_drop_12 : decode cX7_drop 12 = .ok (.getfield 50, 3) := by decide +kernel
theorem dX7_drop_15 : decode cX7_drop 15 = .ok (.iconst 1, 1) := by decide +kernel
theorem dX7_drop_16 : decode cX7_drop 16 = .ok (.isub, 1) := by decide +kernel
theorem dX7_drop_17 : decode cX7_drop 17 = .ok (.putfield 50, 3) := by decide +kernel
theorem dX7_drop_20 : decode cX7_drop 20 = .ok (.aload_n 0, 1) := by decide +kernel
theorem dX7_drop_21 : decode cX7_drop 21 = .ok (.getfield 50, 3) := by decide +kernel
theorem dX7_drop_24 : decode cX7_drop 24 = .ok (.ireturn, 1) := by decide +kernel
theorem dX7_frontCost_0 : decode cX7_frontCost 0 = .ok (.iconst 0, 1) := by decide +kernel
theorem dX7_frontCost_1 : decode cX7_frontCost 1 = .ok (.istore_n 1, 1) := by decide +kernel
theorem dX7_frontCost_2 : decode cX7_frontCost 2 = .ok (.iload_n 1, 1) := by decide +kernel
theorem dX7_frontCost_3 : decode cX7_frontCost 3 = .ok (.aload_n 0, 1) := by decide +kernel
theorem dX7_frontCost_4 : decode cX7_frontCost 4 = .ok (.getfield 29, 3) := by decide +kernel
theorem dX7_frontCost_7 : decode cX7_frontCost 7 = .ok (.if_icmp .ge 16, 3) := by decide +kernel
theorem dX7_frontCost_10 : decode cX7_frontCost 10 = .ok (.aload_n 0, 1) := by decide +kernel
theorem dX7_frontCost_11 : decode cX7_frontCost 11 = .ok (.getfield 35, 3) := by decide +kernel
theorem dX7_frontCost_14 : decode cX7_frontCost 14 = .ok (.iload_n 1, 1) := by decide +kernel
theorem dX7_frontCost_15 : decode cX7_frontCost 15 = .ok (.iload_n 1, 1) := by decide +kernel
theorem dX7_frontCost_16 : decode cX7_frontCost 16 = .ok (.iastore, 1) := by decide +kernel
theorem dX7_frontCost_17 : decode cX7_frontCost 17 = .ok (.iinc 1 1, 3) := by decide +kernel
theorem dX7_frontCost_20 : decode cX7_frontCost 20 = .ok (.goto (-18), 3) := by decide +kernel
theorem dX7_frontCost_23 : decode cX7_frontCost 23 = .ok (.iconst 0, 1) := by decide +kernel
theorem dX7_frontCost_24 : decode cX7_frontCost 24 = .ok (.istore_n 1, 1) := by decide +kernel
theorem dX7_frontCost_25 : decode cX7_frontCost 25 = .ok (.iconst 0, 1) := by decide +kernel
theorem dX7_frontCost_26 : decode cX7_frontCost 26 = .ok (.istore_n 2, 1) := by decide +kernel
theorem dX7_frontCost_27 : decode cX7_frontCost 27 = .ok (.iload_n 2, 1) := by decide +kernel
theorem dX7_frontCost_28 : decode cX7_frontCost 28 = .ok (.aload_n 0, 1) := by decide +kernel
theorem dX7_frontCost_29 : decode cX7_frontCost 29 = .ok (.getfield 50, 3) := by decide +kernel
theorem dX7_frontCost_32 : decode cX7_frontCost 32 = .ok (.if_icmp .ge 80, 3) := by decide +kernel
theorem dX7_frontCost_35 : decode cX7_frontCost 35 = .ok (.iconst 0, 1) := by decide +kernel
theorem dX7_frontCost_36 : decode cX7_frontCost 36 = .ok (.istore_n 3, 1) := by decide +kernel
theorem dX7_frontCost_37 : decode cX7_frontCost 37 = .ok (.aload_n 0, 1) := by decide +kernel
theorem dX7_frontCost_38 : decode cX7_frontCost 38 = .ok (.getfield 35, 3) := by decide +kernel
theorem dX7_frontCost_41 : decode cX7_frontCost 41 = .ok (.iload_n 3, 1) := by decide +kernel
theorem dX7_frontCost_42 : decode cX7_frontCost 42 = .ok (.iaload, 1) := by decide +kernel
theorem dX7_frontCost_43 : decode cX7_frontCost 43 = .ok (.aload_n 0, 1) := by decide +kernel
theorem dX7_frontCost_44 : decode cX7_frontCost 44 = .ok (.getfield 32, 3) := by decide +kernel
theorem dX7_frontCost_47 : decode cX7_frontCost 47 = .ok (.iload_n 2, 1) := by decide +kernel
theorem dX7_frontCost_48 : decode cX7_frontCost 48 = .ok (.iaload, 1) := by decide +kernel
theorem dX7_frontCost_49 : decode cX7_frontCost 49 = .ok (.if_icmp .eq 9, 3) := by decide +kernel
theorem dX7_frontCost_52 : decode cX7_frontCost 52 = .ok (.iinc 3 1, 3) := by decide +kernel
theorem dX7_frontCost_55 : decode cX7_frontCost 55 = .ok (.goto (-18), 3) := by decide +kernel
theorem dX7_frontCost_58 : decode cX7_frontCost 58 = .ok (.iload_n 1, 1) := by decide +kernel
theorem dX7_frontCost_59 : decode cX7_frontCost 59 = .ok (.iload_n 3, 1) := by decide +kernel
theorem dX7_frontCost_60 : decode cX7_frontCost 60 = .ok (.iconst 1, 1) := by decide +kernel
theorem dX7_frontCost_61 : decode cX7_frontCost 61 = .ok (.iadd, 1) := by decide +kernel
theorem dX7_frontCost_62 : decode cX7_frontCost 62 = .ok (.iadd, 1) := by decide +kernel
theorem dX7_frontCost_63 : decode cX7_frontCost 63 = .ok (.istore_n 1, 1) := by decide +kernel
theorem dX7_frontCost_64 : decode cX7_frontCost 64 = .ok (.iload_n 3, 1) := by decide +kernel
theorem dX7_frontCost_65 : decode cX7_frontCost 65 = .ok (.istore 4, 2) := by decide +kernel
theorem dX7_frontCost_67 : decode cX7_frontCost 67 = .ok (.iload 4, 2) := by decide +kernel
theorem dX7_frontCost_69 : decode cX7_frontCost 69 = .ok (.ifCond .le 25, 3) := by decide +kernel
theorem dX7_frontCost_72 : decode cX7_frontCost 72 = .ok (.aload_n 0, 1) := by decide +kernel
theorem dX7_frontCost_73 : decode cX7_frontCost 73 = .ok (.getfield 35, 3) := by decide +kernel
theorem dX7_frontCost_76 : decode cX7_frontCost 76 = .ok (.iload 4, 2) := by decide +kernel
theorem dX7_frontCost_78 : decode cX7_frontCost 78 = .ok (.aload_n 0, 1) := by decide +kernel
theorem dX7_frontCost_79 : decode cX7_frontCost 79 = .ok (.getfield 35, 3) := by decide +kernel
theorem dX7_frontCost_82 : decode cX7_frontCost 82 = .ok (.iload 4, 2) := by decide +kernel
theorem dX7_frontCost_84 : decode cX7_frontCost 84 = .ok (.iconst 1, 1) := by decide +kernel
theorem dX7_frontCost_85 : decode cX7_frontCost 85 = .ok (.isub, 1) := by decide +kernel
theorem dX7_frontCost_86 : decode cX7_frontCost 86 = .ok (.iaload, 1) := by decide +kernel
theorem dX7_frontCost_87 : decode cX7_frontCost 87 = .ok (.iastore, 1) := by decide +kernel
theorem dX7_frontCost_88 : decode cX7_frontCost 88 = .ok (.iinc 4 (-1), 3) := by decide +kernel
theorem dX7_frontCost_91 : decode cX7_frontCost 91 = .ok (.goto (-24), 3) := by decide +kernel
theorem dX7_frontCost_94 : decode cX7_frontCost 94 = .ok (.aload_n 0, 1) := by decide +kernel
theorem dX7_frontCost_95 : decode cX7_frontCost 95 = .ok (.getfield 35, 3) := by decide +kernel
theorem dX7_frontCost_98 : decode cX7_frontCost 98 = .ok (.iconst 0, 1) := by decide +kernel
theorem dX7_frontCost_99 : decode cX7_frontCost 99 = .ok (.aload_n 0, 1) := by decide +kernel
theorem dX7_frontCost_100 : decode cX7_frontCost 100 = .ok (.getfield 32, 3) := by decide +kernel
theorem dX7_frontCost_103 : decode cX7_frontCost 103 = .ok (.iload_n 2, 1) := by decide +kernel
theorem dX7_frontCost_104 : decode cX7_frontCost 104 = .ok (.iaload, 1) := by decide +kernel
theorem dX7_frontCost_105 : decode cX7_frontCost 105 = .ok (.iastore, 1) := by decide +kernel
theorem dX7_frontCost_106 : decode cX7_frontCost 106 = .ok (.iinc 2 1, 3) := by decide +kernel
theorem dX7_frontCost_109 : decode cX7_frontCost 109 = .ok (.goto (-82), 3) := by decide +kernel
theorem dX7_frontCost_112 : decode cX7_frontCost 112 = .ok (.iload_n 1, 1) := by decide +kernel
theorem dX7_frontCost_113 : decode cX7_frontCost 113 = .ok (.ireturn, 1) := by decide +kernel
theorem dX7_ordersOf_0 : decode cX7_ordersOf 0 = .ok (.aload_n 0, 1) := by decide +kernel
theorem dX7_ordersOf_1 : decode cX7_ordersOf 1 = .ok (.iconst 0, 1) := by decide +kernel
theorem dX7_ordersOf_2 : decode cX7_ordersOf 2 = .ok (.putfield 135, 3) := by decide +kernel
theorem dX7_ordersOf_5 : decode cX7_ordersOf 5 = .ok (.iconst 0, 1) := by decide +kernel
theorem dX7_ordersOf_6 : decode cX7_ordersOf 6 = .ok (.istore_n 1, 1) := by decide +kernel
theorem dX7_ordersOf_7 : decode cX7_ordersOf 7 = .ok (.iload_n 1, 1) := by decide +kernel
theorem dX7_ordersOf_8 : decode cX7_ordersOf 8 = .ok (.sipush 256, 3) := by decide +kernel
theorem dX7_ordersOf_11 : decode cX7_ordersOf 11 = .ok (.if_icmp .ge 153, 3) := by decide +kernel
theorem dX7_ordersOf_14 : decode cX7_ordersOf 14 = .ok (.iconst 0, 1) := by decide +kernel
theorem dX7_ordersOf_15 : decode cX7_ordersOf 15 = .ok (.istore_n 2, 1) := by decide +kernel
theorem dX7_ordersOf_16 : decode cX7_ordersOf 16 = .ok (.iload_n 1, 1) := by decide +kernel
theorem dX7_ordersOf_17 : decode cX7_ordersOf 17 = .ok (.iconst 2, 1) := by decide +kernel
theorem dX7_ordersOf_18 : decode cX7_ordersOf 18 = .ok (.aload_n 0, 1) := by decide +kernel
theorem dX7_ordersOf_19 : decode cX7_ordersOf 19 = .ok (.getfield 29, 3) := by decide +kernel
theorem dX7_ordersOf_22 : decode cX7_ordersOf 22 = .ok (.imul, 1) := by decide +kernel
theorem dX7_ordersOf_23 : decode cX7_ordersOf 23 = .ok (.ishr, 1) := by decide +kernel
theorem dX7_ordersOf_24 : decode cX7_ordersOf 24 = .ok (.ifCond .ne 7, 3) := by decide +kernel
theorem dX7_ordersOf_27 : decode cX7_ordersOf 27 = .ok (.iconst 1, 1) := by decide +kernel
theorem dX7_ordersOf_28 : decode cX7_ordersOf 28 = .ok (.goto 4, 3) := by decide +kernel
theorem dX7_ordersOf_31 : decode cX7_ordersOf 31 = .ok (.iconst 0, 1) := by decide +kernel
theorem dX7_ordersOf_32 : decode cX7_ordersOf 32 = .ok (.istore_n 3, 1) := by decide +kernel
theorem dX7_ordersOf_33 : decode cX7_ordersOf 33 = .ok (.iconst 0, 1) := by decide +kernel
theorem dX7_ordersOf_34 : decode cX7_ordersOf 34 = .ok (.istore 4, 2) := by decide +kernel
theorem dX7_ordersOf_36 : decode cX7_ordersOf 36 = .ok (.iload 4, 2) := by decide +kernel
theorem dX7_ordersOf_38 : decode cX7_ordersOf 38 = .ok (.aload_n 0, 1) := by decide +kernel
theorem dX7_ordersOf_39 : decode cX7_ordersOf 39 = .ok (.getfield 29, 3) := by decide +kernel
theorem dX7_ordersOf_42 : decode cX7_ordersOf 42 = .ok (.if_icmp .ge 54, 3) := by decide +kernel
theorem dX7_ordersOf_45 : decode cX7_ordersOf 45 = .ok (.iload_n 1, 1) := by decide +kernel
theorem dX7_ordersOf_46 : decode cX7_ordersOf 46 = .ok (.iconst 2, 1) := by decide +kernel
theorem dX7_ordersOf_47 : decode cX7_ordersOf 47 = .ok (.iload 4, 2) := by decide +kernel
theorem dX7_ordersOf_49 : decode cX7_ordersOf 49 = .ok (.imul, 1) := by decide +kernel
theorem dX7_ordersOf_50 : decode cX7_ordersOf 50 = .ok (.ishr, 1) := by decide +kernel
theorem dX7_ordersOf_51 : decode cX7_ordersOf 51 = .ok (.iconst 3, 1) := by decide +kernel
theorem dX7_ordersOf_52 : decode cX7_ordersOf 52 = .ok (.iand, 1) := by decide +kernel
theorem dX7_ordersOf_53 : decode cX7_ordersOf 53 = .ok (.istore 5, 2) := by decide +kernel
theorem dX7_ordersOf_55 : decode cX7_ordersOf 55 = .ok (.iload_n 3, 1) := by decide +kernel
theorem dX7_ordersOf_56 : decode cX7_ordersOf 56 = .ok (.ifCond .eq 25, 3) := by decide +kernel
theorem dX7_ordersOf_59 : decode cX7_ordersOf 59 = .ok (.iload 5, 2) := by decide +kernel
theorem dX7_ordersOf_61 : decode cX7_ordersOf 61 = .ok (.aload_n 0, 1) := by decide +kernel
theorem dX7_ordersOf_62 : decode cX7_ordersOf 62 = .ok (.getfield 29, 3) := by decide +kernel
theorem dX7_ordersOf_65 : decode cX7_ordersOf 65 = .ok (.if_icmp .ge 16, 3) := by decide +kernel
theorem dX7_ordersOf_68 : decode cX7_ordersOf 68 = .ok (.iload_n 2, 1) := by decide +kernel
theorem dX7_ordersOf_69 : decode cX7_ordersOf 69 = .ok (.iload 5, 2) := by decide +kernel
theorem dX7_ordersOf_71 : decode cX7_ordersOf 71 = .ok (.ishr, 1) := by decide +kernel
theorem dX7_ordersOf_72 : decode cX7_ordersOf 72 = .ok (.iconst 1, 1) := by decide +kernel
theorem dX7_ordersOf_73 : decode cX7_ordersOf 73 = .ok (.iand, 1) := by decide +kernel
theorem dX7_ordersOf_74 : decode cX7_ordersOf 74 = .ok (.ifCond .ne 7, 3) := by decide +kernel
theorem dX7_ordersOf_77 : decode cX7_ordersOf 77 = .ok (.iconst 1, 1) := by decide +kernel
theorem dX7_ordersOf_78 : decode cX7_ordersOf 78 = .ok (.goto 4, 3) := by decide +kernel
theorem dX7_ordersOf_81 : decode cX7_ordersOf 81 = .ok (.iconst 0, 1) := by decide +kernel
theorem dX7_ordersOf_82 : decode cX7_ordersOf 82 = .ok (.istore_n 3, 1) := by decide +kernel
theorem dX7_ordersOf_83 : decode cX7_ordersOf 83 = .ok (.iload_n 2, 1) := by decide +kernel
theorem dX7_ordersOf_84 : decode cX7_ordersOf 84 = .ok (.iconst 1, 1) := by decide +kernel
theorem dX7_ordersOf_85 : decode cX7_ordersOf 85 = .ok (.iload 5, 2) := by decide +kernel
theorem dX7_ordersOf_87 : decode cX7_ordersOf 87 = .ok (.ishl, 1) := by decide +kernel
theorem dX7_ordersOf_88 : decode cX7_ordersOf 88 = .ok (.ior, 1) := by decide +kernel
theorem dX7_ordersOf_89 : decode cX7_ordersOf 89 = .ok (.istore_n 2, 1) := by decide +kernel
theorem dX7_ordersOf_90 : decode cX7_ordersOf 90 = .ok (.iinc 4 1, 3) := by decide +kernel
theorem dX7_ordersOf_93 : decode cX7_ordersOf 93 = .ok (.goto (-57), 3) := by decide +kernel
theorem dX7_ordersOf_96 : decode cX7_ordersOf 96 = .ok (.iconst 0, 1) := by decide +kernel
theorem dX7_ordersOf_97 : decode cX7_ordersOf 97 = .ok (.istore 4, 2) := by decide +kernel
theorem dX7_ordersOf_99 : decode cX7_ordersOf 99 = .ok (.iload 4, 2) := by decide +kernel
theorem dX7_ordersOf_101 : decode cX7_ordersOf 101 = .ok (.aload_n 0, 1) := by decide +kernel
theorem dX7_ordersOf_102 : decode cX7_ordersOf 102 = .ok (.getfield 29, 3) := by decide +kernel
theorem dX7_ordersOf_105 : decode cX7_ordersOf 105 = .ok (.if_icmp .ge 35, 3) := by decide +kernel
theorem dX7_ordersOf_108 : decode cX7_ordersOf 108 = .ok (.iload_n 3, 1) := by decide +kernel
theorem dX7_ordersOf_109 : decode cX7_ordersOf 109 = .ok (.ifCond .eq 31, 3) := by decide +kernel
theorem dX7_ordersOf_112 : decode cX7_ordersOf 112 = .ok (.aload_n 0, 1) := by decide +kernel
theorem dX7_ordersOf_113 : decode cX7_ordersOf 113 = .ok (.getfield 38, 3) := by decide +kernel
theorem dX7_ordersOf_116 : decode cX7_ordersOf 116 = .ok (.iconst 4, 1) := by decide +kernel
theorem dX7_ordersOf_117 : decode cX7_ordersOf 117 = .ok (.aload_n 0, 1) := by decide +kernel
theorem dX7_ordersOf_118 : decode cX7_ordersOf 118 = .ok (.getfield 135, 3) := by decide +kernel
theorem dX7_ordersOf_121 : decode cX7_ordersOf 121 = .ok (.imul, 1) := by decide +kernel
theorem dX7_ordersOf_122 : decode cX7_ordersOf 122 = .ok (.iload 4, 2) := by decide +kernel
theorem dX7_ordersOf_124 : decode cX7_ordersOf 124 = .ok (.iadd, 1) := by decide +kernel
theorem dX7_ordersOf_125 : decode cX7_ordersOf 125 = .ok (.iload_n 1, 1) := by decide +kernel
theorem dX7_ordersOf_126 : decode cX7_ordersOf 126 = .ok (.iconst 2, 1) := by decide +kernel
theorem dX7_ordersOf_127 : decode cX7_ordersOf 127 = .ok (.iload 4, 2) := by decide +kernel
theorem dX7_ordersOf_129 : decode cX7_ordersOf 129 = .ok (.imul, 1) := by decide +kernel
theorem dX7_ordersOf_130 : decode cX7_ordersOf 130 = .ok (.ishr, 1) := by decide +kernel
theorem dX7_ordersOf_131 : decode cX7_ordersOf 131 = .ok (.iconst 3, 1) := by decide +kernel
theorem dX7_ordersOf_132 : decode cX7_ordersOf 132 = .ok (.iand, 1) := by decide +kernel
theorem dX7_ordersOf_133 : decode cX7_ordersOf 133 = .ok (.iastore, 1) := by decide +kernel
theorem dX7_ordersOf_134 : decode cX7_ordersOf 134 = .ok (.iinc 4 1, 3) := by decide +kernel
theorem dX7_ordersOf_137 : decode cX7_ordersOf 137 = .ok (.goto (-38), 3) := by decide +kernel
theorem dX7_ordersOf_140 : decode cX7_ordersOf 140 = .ok (.aload_n 0, 1) := by decide +kernel
theorem dX7_ordersOf_141 : decode cX7_ordersOf 141 = .ok (.dup, 1) := by decide +kernel
theorem dX7_ordersOf_142 : decode cX7_ordersOf 142 = .ok (.getfield 135, 3) := by decide +kernel
theorem dX7_ordersOf_145 : decode cX7_ordersOf 145 = .ok (.iload_n 3, 1) := by decide +kernel
theorem dX7_ordersOf_146 : decode cX7_ordersOf 146 = .ok (.ifCond .eq 7, 3) := by decide +kernel
theorem dX7_ordersOf_149 : decode cX7_ordersOf 149 = .ok (.iconst 1, 1) := by decide +kernel
theorem dX7_ordersOf_150 : decode cX7_ordersOf 150 = .ok (.goto 4, 3) := by decide +kernel
theorem dX7_ordersOf_153 : decode cX7_ordersOf 153 = .ok (.iconst 0, 1) := by decide +kernel
theorem dX7_ordersOf_154 : decode cX7_ordersOf 154 = .ok (.iadd, 1) := by decide +kernel
theorem dX7_ordersOf_155 : decode cX7_ordersOf 155 = .ok (.putfield 135, 3) := by decide +kernel
theorem dX7_ordersOf_158 : decode cX7_ordersOf 158 = .ok (.iinc 1 1, 3) := by decide +kernel
theorem dX7_ordersOf_161 : decode cX7_ordersOf 161 = .ok (.goto (-154), 3) := by decide +kernel
theorem dX7_ordersOf_164 : decode cX7_ordersOf 164 = .ok (.return_, 1) := by decide +kernel
theorem dX7_placeIn_0 : decode cX7_placeIn 0 = .ok (.iconst 0, 1) := by decide +kernel
theorem dX7_placeIn_1 : decode cX7_placeIn 1 = .ok (.istore_n 3, 1) := by decide +kernel
theorem dX7_placeIn_2 : decode cX7_placeIn 2 = .ok (.aload_n 0, 1) := by decide +kernel
theorem dX7_placeIn_3 : decode cX7_placeIn 3 = .ok (.getfield 38, 3) := by decide +kernel
theorem dX7_placeIn_6 : decode cX7_placeIn 6 = .ok (.iconst 4, 1) := by decide +kernel
theorem dX7_placeIn_7 : decode cX7_placeIn 7 = .ok (.iload_n 1, 1) := by decide +kernel
theorem dX7_placeIn_8 : decode cX7_placeIn 8 = .ok (.imul, 1) := by decide +kernel
theorem dX7_placeIn_9 : decode cX7_placeIn 9 = .ok (.iload_n 3, 1) := by decide +kernel
theorem dX7_placeIn_10 : decode cX7_placeIn 10 = .ok (.iadd, 1) := by decide +kernel
theorem dX7_placeIn_11 : decode cX7_placeIn 11 = .ok (.iaload, 1) := by decide +kernel
theorem dX7_placeIn_12 : decode cX7_placeIn 12 = .ok (.iload_n 2, 1) := by decide +kernel
theorem dX7_placeIn_13 : decode cX7_placeIn 13 = .ok (.if_icmp .eq 9, 3) := by decide +kernel
theorem dX7_placeIn_16 : decode cX7_placeIn 16 = .ok (.iinc 3 1, 3) := by decide +kernel
theorem dX7_placeIn_19 : decode cX7_placeIn 19 = .ok (.goto (-17), 3) := by decide +kernel
theorem dX7_placeIn_22 : decode cX7_placeIn 22 = .ok (.iload_n 3, 1) := by decide +kernel
theorem dX7_placeIn_23 : decode cX7_placeIn 23 = .ok (.ireturn, 1) := by decide +kernel
set_option maxRecDepth 20000 in
theorem ggX7_staysCost_X7_placeIn : GoodIn wsX7_staysCost wsX7_placeIn := goodIn_r _ [7, 8, 9, 10, 11, 12, 13, 14, 15, 16, 17, 18, 19, 20, 21, 22, 23, 24, 25, 26] (by decide +kernel) (by decide +kernel)
set_option maxRecDepth 20000 in
theorem gX7_staysCost_X7_placeIn : GoodIn wsX7_staysCost (wsV RX7 138 RX7 yX7_placeIn wsX7_placeIn) := goodIn_app (goodIn_of _ (by decide +kernel)) ggX7_staysCost_X7_placeIn
theorem dX7_staysCost_0 : decode cX7_staysCost 0 = .ok (.iconst 0, 1) := by decide +kernel
theorem dX7_staysCost_1 : decode cX7_staysCost 1 = .ok (.istore_n 2, 1) := by decide +kernel
theorem dX7_staysCost_2 : decode cX7_staysCost 2 = .ok (.iconst 0, 1) := by decide +kernel
theorem dX7_staysCost_3 : decode cX7_staysCost 3 = .ok (.istore_n 3, 1) := by decide +kernel
theorem dX7_staysCost_4 : decode cX7_staysCost 4 = .ok (.iload_n 3, 1) := by decide +kernel
theorem dX7_staysCost_5 : decode cX7_staysCost 5 = .ok (.aload_n 0, 1) := by decide +kernel
theorem dX7_staysCost_6 : decode cX7_staysCost 6 = .ok (.getfield 50, 3) := by decide +kernel
theorem dX7_staysCost_9 : decode cX7_staysCost 9 = .ok (.if_icmp .ge 25, 3) := by decide +kernel
theorem dX7_staysCost_12 : decode cX7_staysCost 12 = .ok (.iload_n 2, 1) := by decide +kernel
theorem dX7_staysCost_13 : decode cX7_staysCost 13 = .ok (.aload_n 0, 1) := by decide +kernel
theorem dX7_staysCost_14 : decode cX7_staysCost 14 = .ok (.iload_n 1, 1) := by decide +kernel
theorem dX7_staysCost_15 : decode cX7_staysCost 15 = .ok (.aload_n 0, 1) := by decide +kernel
theorem dX7_staysCost_16 : decode cX7_staysCost 16 = .ok (.getfield 32, 3) := by decide +kernel
theorem dX7_staysCost_19 : decode cX7_staysCost 19 = .ok (.iload_n 3, 1) := by decide +kernel
theorem dX7_staysCost_20 : decode cX7_staysCost 20 = .ok (.iaload, 1) := by decide +kernel
theorem dX7_staysCost_21 : decode cX7_staysCost 21 = .ok (.invokevirtual 138, 3) := by decide +kernel
theorem dX7_staysCost_24 : decode cX7_staysCost 24 = .ok (.iconst 1, 1) := by decide +kernel
theorem dX7_staysCost_25 : decode cX7_staysCost 25 = .ok (.iadd, 1) := by decide +kernel
theorem dX7_staysCost_26 : decode cX7_staysCost 26 = .ok (.iadd, 1) := by decide +kernel
theorem dX7_staysCost_27 : decode cX7_staysCost 27 = .ok (.istore_n 2, 1) := by decide +kernel
theorem dX7_staysCost_28 : decode cX7_staysCost 28 = .ok (.iinc 3 1, 3) := by decide +kernel
theorem dX7_staysCost_31 : decode cX7_staysCost 31 = .ok (.goto (-27), 3) := by decide +kernel
theorem dX7_staysCost_34 : decode cX7_staysCost 34 = .ok (.iload_n 2, 1) := by decide +kernel
theorem dX7_staysCost_35 : decode cX7_staysCost 35 = .ok (.ireturn, 1) := by decide +kernel
set_option maxRecDepth 20000 in
theorem ggX7_apart_X7_placeIn : GoodIn wsX7_apart wsX7_placeIn := goodIn_r _ [6, 7, 8, 9, 10, 11, 12, 13, 14, 15, 16, 17, 18, 19, 20, 21, 22, 23, 24, 25] (by decide +kernel) (by decide +kernel)
set_option maxRecDepth 20000 in
theorem gX7_apart_X7_placeIn : GoodIn wsX7_apart (wsV RX7 138 RX7 yX7_placeIn wsX7_placeIn) := goodIn_app (goodIn_of _ (by decide +kernel)) ggX7_apart_X7_placeIn
theorem dX7_apart_0 : decode cX7_apart 0 = .ok (.iconst 0, 1) := by decide +kernel
theorem dX7_apart_1 : decode cX7_apart 1 = .ok (.istore_n 3, 1) := by decide +kernel
theorem dX7_apart_2 : decode cX7_apart 2 = .ok (.iconst 0, 1) := by decide +kernel
theorem dX7_apart_3 : decode cX7_apart 3 = .ok (.istore 4, 2) := by decide +kernel
theorem dX7_apart_5 : decode cX7_apart 5 = .ok (.iload 4, 2) := by decide +kernel
theorem dX7_apart_7 : decode cX7_apart 7 = .ok (.aload_n 0, 1) := by decide +kernel
theorem dX7_apart_8 : decode cX7_apart 8 = .ok (.getfield 29, 3) := by decide +kernel
theorem dX7_apart_11 : decode cX7_apart 11 = .ok (.if_icmp .ge 80, 3) := by decide +kernel
theorem dX7_apart_14 : decode cX7_apart 14 = .ok (.iconst 0, 1) := by decide +kernel
theorem dX7_apart_15 : decode cX7_apart 15 = .ok (.istore 5, 2) := by decide +kernel
theorem dX7_apart_17 : decode cX7_apart 17 = .ok (.iload 5, 2) := by decide +kernel
theorem dX7_apart_19 : decode cX7_apart 19 = .ok (.iload 4, 2) := by decide +kernel
theorem dX7_apart_21 : decode cX7_apart 21 = .ok (.if_icmp .ge 64, 3) := by decide +kernel
theorem dX7_apart_24 : decode cX7_apart 24 = .ok (.iload_n 3, 1) := by decide +kernel
theorem dX7_apart_25 : decode cX7_apart 25 = .ok (.aload_n 0, 1) := by decide +kernel
theorem dX7_apart_26 : decode cX7_apart 26 = .ok (.iload_n 1, 1) := by decide +kernel
theorem dX7_apart_27 : decode cX7_apart 27 = .ok (.iload 4, 2) := by decide +kernel
theorem dX7_apart_29 : decode cX7_apart 29 = .ok (.invokevirtual 138, 3) := by decide +kernel
theorem dX7_apart_32 : decode cX7_apart 32 = .ok (.aload_n 0, 1) := by decide +kernel
theorem dX7_apart_33 : decode cX7_apart 33 = .ok (.iload_n 1, 1) := by decide +kernel
theorem dX7_apart_34 : decode cX7_apart 34 = .ok (.iload 5, 2) := by decide +kernel
theorem dX7_apart_36 : decode cX7_apart 36 = .ok (.invokevirtual 138, 3) := by decide +kernel
theorem dX7_apart_39 : decode cX7_apart 39 = .ok (.if_icmp .ge 7, 3) := by decide +kernel
theorem dX7_apart_42 : decode cX7_apart 42 = .ok (.iconst 1, 1) := by decide +kernel
theorem dX7_apart_43 : decode cX7_apart 43 = .ok (.goto 4, 3) := by decide +kernel
theorem dX7_apart_46 : decode cX7_apart 46 = .ok (.iconst 0, 1) := by decide +kernel
theorem dX7_apart_47 : decode cX7_apart 47 = .ok (.aload_n 0, 1) := by decide +kernel
theorem dX7_apart_48 : decode cX7_apart 48 = .ok (.iload_n 2, 1) := by decide +kernel
theorem dX7_apart_49 : decode cX7_apart 49 = .ok (.iload 4, 2) := by decide +kernel
theorem dX7_apart_51 : decode cX7_apart 51 = .ok (.invokevirtual 138, 3) := by decide +kernel
theorem dX7_apart_54 : decode cX7_apart 54 = .ok (.aload_n 0, 1) := by decide +kernel
theorem dX7_apart_55 : decode cX7_apart 55 = .ok (.iload_n 2, 1) := by decide +kernel
theorem dX7_apart_56 : decode cX7_apart 56 = .ok (.iload 5, 2) := by decide +kernel
theorem dX7_apart_58 : decode cX7_apart 58 = .ok (.invokevirtual 138, 3) := by decide +kernel
theorem dX7_apart_61 : decode cX7_apart 61 = .ok (.if_icmp .ge 7, 3) := by decide +kernel
theorem dX7_apart_64 : decode cX7_apart 64 = .ok (.iconst 1, 1) := by decide +kernel
theorem dX7_apart_65 : decode cX7_apart 65 = .ok (.goto 4, 3) := by decide +kernel
theorem dX7_apart_68 : decode cX7_apart 68 = .ok (.iconst 0, 1) := by decide +kernel
theorem dX7_apart_69 : decode cX7_apart 69 = .ok (.if_icmp .eq 7, 3) := by decide +kernel
theorem dX7_apart_72 : decode cX7_apart 72 = .ok (.iconst 1, 1) := by decide +kernel
theorem dX7_apart_73 : decode cX7_apart 73 = .ok (.goto 4, 3) := by decide +kernel
theorem dX7_apart_76 : decode cX7_apart 76 = .ok (.iconst 0, 1) := by decide +kernel
theorem dX7_apart_77 : decode cX7_apart 77 = .ok (.iadd, 1) := by decide +kernel
theorem dX7_apart_78 : decode cX7_apart 78 = .ok (.istore_n 3, 1) := by decide +kernel
theorem dX7_apart_79 : decode cX7_apart 79 = .ok (.iinc 5 1, 3) := by decide +kernel
theorem dX7_apart_82 : decode cX7_apart 82 = .ok (.goto (-65), 3) := by decide +kernel
theorem dX7_apart_85 : decode cX7_apart 85 = .ok (.iinc 4 1, 3) := by decide +kernel
theorem dX7_apart_88 : decode cX7_apart 88 = .ok (.goto (-83), 3) := by decide +kernel
theorem dX7_apart_91 : decode cX7_apart 91 = .ok (.iload_n 3, 1) := by decide +kernel
theorem dX7_apart_92 : decode cX7_apart 92 = .ok (.ireturn, 1) := by decide +kernel
set_option maxRecDepth 20000 in
theorem ggX7_comesOf_X7_placeIn : GoodIn wsX7_comesOf wsX7_placeIn := goodIn_r _ [6, 7, 8, 9, 10, 11, 12, 13, 14, 15, 16, 17, 18, 19, 20, 21, 22, 23, 24, 25] (by decide +kernel) (by decide +kernel)
set_option maxRecDepth 20000 in
theorem gX7_comesOf_X7_placeIn : GoodIn wsX7_comesOf (wsV RX7 138 RX7 yX7_placeIn wsX7_placeIn) := goodIn_app (goodIn_of _ (by decide +kernel)) ggX7_comesOf_X7_placeIn
theorem dX7_comesOf_0 : decode cX7_comesOf 0 = .ok (.aload_n 0, 1) := by decide +kernel
theorem dX7_comesOf_1 : decode cX7_comesOf 1 = .ok (.iload_n 2, 1) := by decide +kernel
theorem dX7_comesOf_2 : decode cX7_comesOf 2 = .ok (.iload_n 3, 1) := by decide +kernel
theorem dX7_comesOf_3 : decode cX7_comesOf 3 = .ok (.invokevirtual 138, 3) := by decide +kernel
theorem dX7_comesOf_6 : decode cX7_comesOf 6 = .ok (.aload_n 0, 1) := by decide +kernel
theorem dX7_comesOf_7 : decode cX7_comesOf 7 = .ok (.iload_n 1, 1) := by decide +kernel
theorem dX7_comesOf_8 : decode cX7_comesOf 8 = .ok (.iload_n 3, 1) := by decide +kernel
theorem dX7_comesOf_9 : decode cX7_comesOf 9 = .ok (.invokevirtual 138, 3) := by decide +kernel
theorem dX7_comesOf_12 : decode cX7_comesOf 12 = .ok (.if_icmp .gt 7, 3) := by decide +kernel
theorem dX7_comesOf_15 : decode cX7_comesOf 15 = .ok (.iconst 1, 1) := by decide +kernel
theorem dX7_comesOf_16 : decode cX7_comesOf 16 = .ok (.goto 4, 3) := by decide +kernel
theorem dX7_comesOf_19 : decode cX7_comesOf 19 = .ok (.iconst 0, 1) := by decide +kernel
theorem dX7_comesOf_20 : decode cX7_comesOf 20 = .ok (.istore 4, 2) := by decide +kernel
theorem dX7_comesOf_22 : decode cX7_comesOf 22 = .ok (.iconst 0, 1) := by decide +kernel
theorem dX7_comesOf_23 : decode cX7_comesOf 23 = .ok (.istore 5, 2) := by decide +kernel
theorem dX7_comesOf_25 : decode cX7_comesOf 25 = .ok (.iload 5, 2) := by decide +kernel
theorem dX7_comesOf_27 : decode cX7_comesOf 27 = .ok (.aload_n 0, 1) := by decide +kernel
theorem dX7_comesOf_28 : decode cX7_comesOf 28 = .ok (.getfield 29, 3) := by decide +kernel
theorem dX7_comesOf_31 : decode cX7_comesOf 31 = .ok (.if_icmp .ge 108, 3) := by decide +kernel
theorem dX7_comesOf_34 : decode cX7_comesOf 34 = .ok (.iconst 0, 1) := by decide +kernel
theorem dX7_comesOf_35 : decode cX7_comesOf 35 = .ok (.istore 6, 2) := by decide +kernel
theorem dX7_comesOf_37 : decode cX7_comesOf 37 = .ok (.iload 6, 2) := by decide +kernel
theorem dX7_comesOf_39 : decode cX7_comesOf 39 = .ok (.iload 5, 2) := by decide +kernel
theorem dX7_comesOf_41 : decode cX7_comesOf 41 = .ok (.if_icmp .ge 92, 3) := by decide +kernel
theorem dX7_comesOf_44 : decode cX7_comesOf 44 = .ok (.iload 5, 2) := by decide +kernel
theorem dX7_comesOf_46 : decode cX7_comesOf 46 = .ok (.iload_n 3, 1) := by decide +kernel
theorem dX7_comesOf_47 : decode cX7_comesOf 47 = .ok (.if_icmp .eq 13, 3) := by decide +kernel
theorem dX7_comesOf_50 : decode cX7_comesOf 50 = .ok (.iload 6, 2) := by decide +kernel
theorem dX7_comesOf_52 : decode cX7_comesOf 52 = .ok (.iload_n 3, 1) := by decide +kernel
theorem dX7_comesOf_53 : decode cX7_comesOf 53 = .ok (.if_icmp .eq 7, 3) := by decide +kernel
theorem dX7_comesOf_56 : decode cX7_comesOf 56 = .ok (.iconst 1, 1) := by decide +kernel
theorem dX7_comesOf_57 : decode cX7_comesOf 57 = .ok (.goto 4, 3) := by decide +kernel
theorem dX7_comesOf_60 : decode cX7_comesOf 60 = .ok (.iconst 0, 1) := by decide +kernel
theorem dX7_comesOf_61 : decode cX7_comesOf 61 = .ok (.istore 7, 2) := by decide +kernel
theorem dX7_comesOf_63 : decode cX7_comesOf 63 = .ok (.iload 4, 2) := by decide +kernel
theorem dX7_comesOf_65 : decode cX7_comesOf 65 = .ok (.ifCond .eq 59, 3) := by decide +kernel
theorem dX7_comesOf_68 : decode cX7_comesOf 68 = .ok (.iload 7, 2) := by decide +kernel
theorem dX7_comesOf_70 : decode cX7_comesOf 70 = .ok (.ifCond .eq 50, 3) := by decide +kernel
theorem dX7_comesOf_73 : decode cX7_comesOf 73 = .ok (.aload_n 0, 1) := by decide +kernel
theorem dX7_comesOf_74 : decode cX7_comesOf 74 = .ok (.iload_n 1, 1) := by decide +kernel
theorem dX7_comesOf_75 : decode cX7_comesOf 75 = .ok (.iload 5, 2) := by decide +kernel
theorem dX7_comesOf_77 : decode cX7_comesOf 77 = .ok (.invokevirtual 138, 3) := by decide +kernel
theorem dX7_comesOf_80 : decode cX7_comesOf 80 = .ok (.aload_n 0, 1) := by decide +kernel
theorem dX7_comesOf_81 : decode cX7_comesOf 81 = .ok (.iload_n 1, 1) := by decide +kernel
theorem dX7_comesOf_82 : decode cX7_comesOf 82 = .ok (.iload 6, 2) := by decide +kernel
theorem dX7_comesOf_84 : decode cX7_comesOf 84 = .ok (.invokevirtual 138, 3) := by decide +kernel
theorem dX7_comesOf_87 : decode cX7_comesOf 87 = .ok (.if_icmp .ge 7, 3) := by decide +kernel
theorem dX7_comesOf_90 : decode cX7_comesOf 90 = .ok (.iconst 1, 1) := by decide +kernel
theorem dX7_comesOf_91 : decode cX7_comesOf 91 = .ok (.goto 4, 3) := by decide +kernel
theorem dX7_comesOf_94 : decode cX7_comesOf 94 = .ok (.iconst 0, 1) := by decide +kernel
theorem dX7_comesOf_95 : decode cX7_comesOf 95 = .ok (.aload_n 0, 1) := by decide +kernel
theorem dX7_comesOf_96 : decode cX7_comesOf 96 = .ok (.iload_n 2, 1) := by decide +kernel
theorem dX7_comesOf_97 : decode cX7_comesOf 97 = .ok (.iload 5, 2) := by decide +kernel
theorem dX7_comesOf_99 : decode cX7_comesOf 99 = .ok (.invokevirtual 138, 3) := by decide +kernel
theorem dX7_comesOf_102 : decode cX7_comesOf 102 = .ok (.aload_n 0, 1) := by decide +kernel
theorem dX7_comesOf_103 : decode cX7_comesOf 103 = .ok (.iload_n 2, 1) := by decide +kernel
theorem dX7_comesOf_104 : decode cX7_comesOf 104 = .ok (.iload 6, 2) := by decide +kernel
theorem dX7_comesOf_106 : decode cX7_comesOf 106 = .ok (.invokevirtual 138, 3) := by decide +kernel
theorem dX7_comesOf_109 : decode cX7_comesOf 109 = .ok (.if_icmp .ge 7, 3) := by decide +kernel
theorem dX7_comesOf_112 : decode cX7_comesOf 112 = .ok (.iconst 1, 1) := by decide +kernel
theorem dX7_comesOf_113 : decode cX7_comesOf 113 = .ok (.goto 4, 3) := by decide +kernel
theorem dX7_comesOf_116 : decode cX7_comesOf 116 = .ok (.iconst 0, 1) := by decide +kernel
theorem dX7_comesOf_117 : decode cX7_comesOf 117 = .ok (.if_icmp .ne 7, 3) := by decide +kernel
theorem dX7_comesOf_120 : decode cX7_comesOf 120 = .ok (.iconst 1, 1) := by decide +kernel
theorem dX7_comesOf_121 : decode cX7_comesOf 121 = .ok (.goto 4, 3) := by decide +kernel
theorem dX7_comesOf_124 : decode cX7_comesOf 124 = .ok (.iconst 0, 1) := by decide +kernel
theorem dX7_comesOf_125 : decode cX7_comesOf 125 = .ok (.istore 4, 2) := by decide +kernel
theorem dX7_comesOf_127 : decode cX7_comesOf 127 = .ok (.iinc 6 1, 3) := by decide +kernel
theorem dX7_comesOf_130 : decode cX7_comesOf 130 = .ok (.goto (-93), 3) := by decide +kernel
theorem dX7_comesOf_133 : decode cX7_comesOf 133 = .ok (.iinc 5 1, 3) := by decide +kernel
theorem dX7_comesOf_136 : decode cX7_comesOf 136 = .ok (.goto (-111), 3) := by decide +kernel
theorem dX7_comesOf_139 : decode cX7_comesOf 139 = .ok (.iload 4, 2) := by decide +kernel
theorem dX7_comesOf_141 : decode cX7_comesOf 141 = .ok (.ireturn, 1) := by decide +kernel
set_option maxRecDepth 20000 in
theorem ggX7_bestCost_X7_apart : GoodIn wsX7_bestCost wsX7_apart := goodIn_r _ [14, 2, 15, 16, 17, 13, 18, 3, 23, 24, 25, 26, 27, 28, 29, 30, 31, 32, 33, 34, 35, 36, 37, 38, 39, 40] (by decide +kernel) (by decide +kernel)
set_option maxRecDepth 20000 in
theorem gX7_bestCost_X7_apart : GoodIn wsX7_bestCost (wsV RX7 142 RX7 yX7_apart wsX7_apart) := goodIn_app (goodIn_of _ (by decide +kernel)) ggX7_bestCost_X7_apart
set_option maxRecDepth 20000 in
theorem ggX7_bestCost_X7_placeIn : GoodIn wsX7_bestCost wsX7_placeIn := goodIn_r _ [18, 3, 23, 24, 25, 26, 27, 28, 29, 30, 31, 32, 33, 34, 35, 36, 37, 38, 39, 40] (by decide +kernel) (by decide +kernel)
set_option maxRecDepth 20000 in
theorem gX7_bestCost_X7_placeIn : GoodIn wsX7_bestCost (wsV RX7 138 RX7 yX7_placeIn wsX7_placeIn) := goodIn_app (goodIn_of _ (by decide +kernel)) ggX7_bestCost_X7_placeIn
set_option maxRecDepth 20000 in
theorem ggX7_bestCost_X7_comesOf : GoodIn wsX7_bestCost wsX7_comesOf := goodIn_r _ [22, 2, 15, 16, 17, 13, 18, 3, 23, 24, 25, 26, 27, 28, 29, 30, 31, 32, 33, 34, 35, 36, 37, 38, 39, 40] (by decide +kernel) (by decide +kernel)
set_option maxRecDepth 20000 in
theorem gX7_bestCost_X7_comesOf : GoodIn wsX7_bestCost (wsV RX7 145 RX7 yX7_comesOf wsX7_comesOf) := goodIn_app (goodIn_of _ (by decide +kernel)) ggX7_bestCost_X7_comesOf
theorem dX7_bestCost_0 : decode cX7_bestCost 0 = .ok (.iconst 0, 1) := by decide +kernel
theorem dX7_bestCost_1 : decode cX7_bestCost 1 = .ok (.istore_n 1, 1) := by decide +kernel
theorem dX7_bestCost_2 : decode cX7_bestCost 2 = .ok (.iload_n 1, 1) := by decide +kernel
theorem dX7_bestCost_3 : decode cX7_bestCost 3 = .ok (.aload_n 0, 1) := by decide +kernel
theorem dX7_bestCost_4 : decode cX7_bestCost 4 = .ok (.getfield 135, 3) := by decide +kernel
theorem dX7_bestCost_7 : decode cX7_bestCost 7 = .ok (.if_icmp .ge 100, 3) := by decide +kernel
theorem dX7_bestCost_10 : decode cX7_bestCost 10 = .ok (.iconst 1, 1) := by decide +kernel
theorem dX7_bestCost_11 : decode cX7_bestCost 11 = .ok (.istore_n 2, 1) := by decide +kernel
theorem dX7_bestCost_12 : decode cX7_bestCost 12 = .ok (.iconst 0, 1) := by decide +kernel
theorem dX7_bestCost_13 : decode cX7_bestCost 13 = .ok (.istore_n 3, 1) := by decide +kernel
theorem dX7_bestCost_14 : decode cX7_bestCost 14 = .ok (.iload_n 3, 1) := by decide +kernel
theorem dX7_bestCost_15 : decode cX7_bestCost 15 = .ok (.aload_n 0, 1) := by decide +kernel
theorem dX7_bestCost_16 : decode cX7_bestCost 16 = .ok (.getfield 29, 3) := by decide +kernel
theorem dX7_bestCost_19 : decode cX7_bestCost 19 = .ok (.if_icmp .ge 33, 3) := by decide +kernel
theorem dX7_bestCost_22 : decode cX7_bestCost 22 = .ok (.iload_n 2, 1) := by decide +kernel
theorem dX7_bestCost_23 : decode cX7_bestCost 23 = .ok (.ifCond .eq 21, 3) := by decide +kernel
theorem dX7_bestCost_26 : decode cX7_bestCost 26 = .ok (.aload_n 0, 1) := by decide +kernel
theorem dX7_bestCost_27 : decode cX7_bestCost 27 = .ok (.getfield 38, 3) := by decide +kernel
theorem dX7_bestCost_30 : decode cX7_bestCost 30 = .ok (.iconst 4, 1) := by decide +kernel
theorem dX7_bestCost_31 : decode cX7_bestCost 31 = .ok (.iload_n 1, 1) := by decide +kernel
theorem dX7_bestCost_32 : decode cX7_bestCost 32 = .ok (.imul, 1) := by decide +kernel
theorem dX7_bestCost_33 : decode cX7_bestCost 33 = .ok (.iload_n 3, 1) := by decide +kernel
theorem dX7_bestCost_34 : decode cX7_bestCost 34 = .ok (.iadd, 1) := by decide +kernel
theorem dX7_bestCost_35 : decode cX7_bestCost 35 = .ok (.iaload, 1) := by decide +kernel
theorem dX7_bestCost_36 : decode cX7_bestCost 36 = .ok (.iload_n 3, 1) := by decide +kernel
theorem dX7_bestCost_37 : decode cX7_bestCost 37 = .ok (.if_icmp .ne 7, 3) := by decide +kernel
theorem dX7_bestCost_40 : decode cX7_bestCost 40 = .ok (.iconst 1, 1) := by decide +kernel
theorem dX7_bestCost_41 : decode cX7_bestCost 41 = .ok (.goto 4, 3) := by decide +kernel
theorem dX7_bestCost_44 : decode cX7_bestCost 44 = .ok (.iconst 0, 1) := by decide +kernel
theorem dX7_bestCost_45 : decode cX7_bestCost 45 = .ok (.istore_n 2, 1) := by decide +kernel
theorem dX7_bestCost_46 : decode cX7_bestCost 46 = .ok (.iinc 3 1, 3) := by decide +kernel
theorem dX7_bestCost_49 : decode cX7_bestCost 49 = .ok (.goto (-35), 3) := by decide +kernel
theorem dX7_bestCost_52 : decode cX7_bestCost 52 = .ok (.aload_n 0, 1) := by decide +kernel
theorem dX7_bestCost_53 : decode cX7_bestCost 53 = .ok (.getfield 41, 3) := by decide +kernel
theorem dX7_bestCost_56 : decode cX7_bestCost 56 = .ok (.iload_n 1, 1) := by decide +kernel
theorem dX7_bestCost_57 : decode cX7_bestCost 57 = .ok (.iload_n 2, 1) := by decide +kernel
theorem dX7_bestCost_58 : decode cX7_bestCost 58 = .ok (.ifCond .eq 7, 3) := by decide +kernel
theorem dX7_bestCost_61 : decode cX7_bestCost 61 = .ok (.iconst 0, 1) := by decide +kernel
theorem dX7_bestCost_62 : decode cX7_bestCost 62 = .ok (.goto 5, 3) := by decide +kernel
theorem dX7_bestCost_65 : decode cX7_bestCost 65 = .ok (.ldc 141, 2) := by decide +kernel
theorem dX7_bestCost_67 : decode cX7_bestCost 67 = .ok (.iastore, 1) := by decide +kernel
theorem dX7_bestCost_68 : decode cX7_bestCost 68 = .ok (.iconst 0, 1) := by decide +kernel
theorem dX7_bestCost_69 : decode cX7_bestCost 69 = .ok (.istore_n 3, 1) := by decide +kernel
end
section
theorem dX7_bestCost_70 : decode cX7_bestCost 70 = .ok (.iload_n 3, 1) := by decide +kernel
theorem dX7_bestCost_71 : decode cX7_bestCost 71 = .ok (.aload_n 0, 1) := by decide +kernel
theorem dX7_bestCost_72 : decode cX7_bestCost 72 = .ok (.getfield 135, 3) := by decide +kernel
theorem dX7_bestCost_75 : decode cX7_bestCost 75 = .ok (.if_icmp .ge 26, 3) := by decide +kernel
theorem dX7_bestCost_78 : decode cX7_bestCost 78 = .ok (.aload_n 0, 1) := by decide +kernel
theorem dX7_bestCost_79 : decode cX7_bestCost 79 = .ok (.getfield 47, 3) := by decide +kernel
theorem dX7_bestCost_82 : decode cX7_bestCost 82 = .ok (.bipush 24, 2) := by decide +kernel
theorem dX7_bestCost_84 : decode cX7_bestCost 84 = .ok (.iload_n 1, 1) := by decide +kernel
theorem dX7_bestCost_85 : decode cX7_bestCost 85 = .ok (.imul, 1) := by decide +kernel
theorem dX7_bestCost_86 : decode cX7_bestCost 86 = .ok (.iload_n 3, 1) := by decide +kernel
theorem dX7_bestCost_87 : decode cX7_bestCost 87 = .ok (.iadd, 1) := by decide +kernel
theorem dX7_bestCost_88 : decode cX7_bestCost 88 = .ok (.aload_n 0, 1) := by decide +kernel
theorem dX7_bestCost_89 : decode cX7_bestCost 89 = .ok (.iload_n 1, 1) := by decide +kernel
theorem dX7_bestCost_90 : decode cX7_bestCost 90 = .ok (.iload_n 3, 1) := by decide +kernel
theorem dX7_bestCost_91 : decode cX7_bestCost 91 = .ok (.invokevirtual 142, 3) := by decide +kernel
theorem dX7_bestCost_94 : decode cX7_bestCost 94 = .ok (.iastore, 1) := by decide +kernel
theorem dX7_bestCost_95 : decode cX7_bestCost 95 = .ok (.iinc 3 1, 3) := by decide +kernel
theorem dX7_bestCost_98 : decode cX7_bestCost 98 = .ok (.goto (-28), 3) := by decide +kernel
theorem dX7_bestCost_101 : decode cX7_bestCost 101 = .ok (.iinc 1 1, 3) := by decide +kernel
theorem dX7_bestCost_104 : decode cX7_bestCost 104 = .ok (.goto (-102), 3) := by decide +kernel
theorem dX7_bestCost_107 : decode cX7_bestCost 107 = .ok (.iconst 0, 1) := by decide +kernel
theorem dX7_bestCost_108 : decode cX7_bestCost 108 = .ok (.istore_n 1, 1) := by decide +kernel
theorem dX7_bestCost_109 : decode cX7_bestCost 109 = .ok (.iload_n 1, 1) := by decide +kernel
theorem dX7_bestCost_110 : decode cX7_bestCost 110 = .ok (.aload_n 0, 1) := by decide +kernel
theorem dX7_bestCost_111 : decode cX7_bestCost 111 = .ok (.getfield 50, 3) := by decide +kernel
theorem dX7_bestCost_114 : decode cX7_bestCost 114 = .ok (.if_icmp .ge 210, 3) := by decide +kernel
theorem dX7_bestCost_117 : decode cX7_bestCost 117 = .ok (.iconst 0, 1) := by decide +kernel
theorem dX7_bestCost_118 : decode cX7_bestCost 118 = .ok (.istore_n 2, 1) := by decide +kernel
theorem dX7_bestCost_119 : decode cX7_bestCost 119 = .ok (.iload_n 2, 1) := by decide +kernel
theorem dX7_bestCost_120 : decode cX7_bestCost 120 = .ok (.aload_n 0, 1) := by decide +kernel
theorem dX7_bestCost_121 : decode cX7_bestCost 121 = .ok (.getfield 135, 3) := by decide +kernel
theorem dX7_bestCost_124 : decode cX7_bestCost 124 = .ok (.if_icmp .ge 103, 3) := by decide +kernel
theorem dX7_bestCost_127 : decode cX7_bestCost 127 = .ok (.aload_n 0, 1) := by decide +kernel
theorem dX7_bestCost_128 : decode cX7_bestCost 128 = .ok (.getfield 44, 3) := by decide +kernel
theorem dX7_bestCost_131 : decode cX7_bestCost 131 = .ok (.iload_n 2, 1) := by decide +kernel
theorem dX7_bestCost_132 : decode cX7_bestCost 132 = .ok (.ldc 141, 2) := by decide +kernel
theorem dX7_bestCost_134 : decode cX7_bestCost 134 = .ok (.iastore, 1) := by decide +kernel
theorem dX7_bestCost_135 : decode cX7_bestCost 135 = .ok (.iconst 0, 1) := by decide +kernel
theorem dX7_bestCost_136 : decode cX7_bestCost 136 = .ok (.istore_n 3, 1) := by decide +kernel
theorem dX7_bestCost_137 : decode cX7_bestCost 137 = .ok (.iload_n 3, 1) := by decide +kernel
theorem dX7_bestCost_138 : decode cX7_bestCost 138 = .ok (.aload_n 0, 1) := by decide +kernel
theorem dX7_bestCost_139 : decode cX7_bestCost 139 = .ok (.getfield 135, 3) := by decide +kernel
theorem dX7_bestCost_142 : decode cX7_bestCost 142 = .ok (.if_icmp .ge 57, 3) := by decide +kernel
theorem dX7_bestCost_145 : decode cX7_bestCost 145 = .ok (.aload_n 0, 1) := by decide +kernel
theorem dX7_bestCost_146 : decode cX7_bestCost 146 = .ok (.getfield 41, 3) := by decide +kernel
theorem dX7_bestCost_149 : decode cX7_bestCost 149 = .ok (.iload_n 3, 1) := by decide +kernel
theorem dX7_bestCost_150 : decode cX7_bestCost 150 = .ok (.iaload, 1) := by decide +kernel
theorem dX7_bestCost_151 : decode cX7_bestCost 151 = .ok (.aload_n 0, 1) := by decide +kernel
theorem dX7_bestCost_152 : decode cX7_bestCost 152 = .ok (.getfield 47, 3) := by decide +kernel
theorem dX7_bestCost_155 : decode cX7_bestCost 155 = .ok (.bipush 24, 2) := by decide +kernel
theorem dX7_bestCost_157 : decode cX7_bestCost 157 = .ok (.iload_n 3, 1) := by decide +kernel
theorem dX7_bestCost_158 : decode cX7_bestCost 158 = .ok (.imul, 1) := by decide +kernel
theorem dX7_bestCost_159 : decode cX7_bestCost 159 = .ok (.iload_n 2, 1) := by decide +kernel
theorem dX7_bestCost_160 : decode cX7_bestCost 160 = .ok (.iadd, 1) := by decide +kernel
theorem dX7_bestCost_161 : decode cX7_bestCost 161 = .ok (.iaload, 1) := by decide +kernel
theorem dX7_bestCost_162 : decode cX7_bestCost 162 = .ok (.iadd, 1) := by decide +kernel
theorem dX7_bestCost_163 : decode cX7_bestCost 163 = .ok (.istore 4, 2) := by decide +kernel
theorem dX7_bestCost_165 : decode cX7_bestCost 165 = .ok (.aload_n 0, 1) := by decide +kernel
theorem dX7_bestCost_166 : decode cX7_bestCost 166 = .ok (.getfield 44, 3) := by decide +kernel
theorem dX7_bestCost_169 : decode cX7_bestCost 169 = .ok (.iload_n 2, 1) := by decide +kernel
theorem dX7_bestCost_170 : decode cX7_bestCost 170 = .ok (.iload 4, 2) := by decide +kernel
theorem dX7_bestCost_172 : decode cX7_bestCost 172 = .ok (.aload_n 0, 1) := by decide +kernel
theorem dX7_bestCost_173 : decode cX7_bestCost 173 = .ok (.getfield 44, 3) := by decide +kernel
theorem dX7_bestCost_176 : decode cX7_bestCost 176 = .ok (.iload_n 2, 1) := by decide +kernel
theorem dX7_bestCost_177 : decode cX7_bestCost 177 = .ok (.iaload, 1) := by decide +kernel
theorem dX7_bestCost_178 : decode cX7_bestCost 178 = .ok (.if_icmp .ge 8, 3) := by decide +kernel
theorem dX7_bestCost_181 : decode cX7_bestCost 181 = .ok (.iload 4, 2) := by decide +kernel
theorem dX7_bestCost_183 : decode cX7_bestCost 183 = .ok (.goto 9, 3) := by decide +kernel
theorem dX7_bestCost_186 : decode cX7_bestCost 186 = .ok (.aload_n 0, 1) := by decide +kernel
theorem dX7_bestCost_187 : decode cX7_bestCost 187 = .ok (.getfield 44, 3) := by decide +kernel
theorem dX7_bestCost_190 : decode cX7_bestCost 190 = .ok (.iload_n 2, 1) := by decide +kernel
theorem dX7_bestCost_191 : decode cX7_bestCost 191 = .ok (.iaload, 1) := by decide +kernel
theorem dX7_bestCost_192 : decode cX7_bestCost 192 = .ok (.iastore, 1) := by decide +kernel
theorem dX7_bestCost_193 : decode cX7_bestCost 193 = .ok (.iinc 3 1, 3) := by decide +kernel
theorem dX7_bestCost_196 : decode cX7_bestCost 196 = .ok (.goto (-59), 3) := by decide +kernel
theorem dX7_bestCost_199 : decode cX7_bestCost 199 = .ok (.aload_n 0, 1) := by decide +kernel
theorem dX7_bestCost_200 : decode cX7_bestCost 200 = .ok (.getfield 44, 3) := by decide +kernel
theorem dX7_bestCost_203 : decode cX7_bestCost 203 = .ok (.iload_n 2, 1) := by decide +kernel
theorem dX7_bestCost_204 : decode cX7_bestCost 204 = .ok (.dup2, 1) := by decide +kernel
theorem dX7_bestCost_205 : decode cX7_bestCost 205 = .ok (.iaload, 1) := by decide +kernel
theorem dX7_bestCost_206 : decode cX7_bestCost 206 = .ok (.aload_n 0, 1) := by decide +kernel
theorem dX7_bestCost_207 : decode cX7_bestCost 207 = .ok (.iload_n 2, 1) := by decide +kernel
theorem dX7_bestCost_208 : decode cX7_bestCost 208 = .ok (.aload_n 0, 1) := by decide +kernel
theorem dX7_bestCost_209 : decode cX7_bestCost 209 = .ok (.getfield 32, 3) := by decide +kernel
theorem dX7_bestCost_212 : decode cX7_bestCost 212 = .ok (.iload_n 1, 1) := by decide +kernel
theorem dX7_bestCost_213 : decode cX7_bestCost 213 = .ok (.iaload, 1) := by decide +kernel
theorem dX7_bestCost_214 : decode cX7_bestCost 214 = .ok (.invokevirtual 138, 3) := by decide +kernel
theorem dX7_bestCost_217 : decode cX7_bestCost 217 = .ok (.iconst 1, 1) := by decide +kernel
theorem dX7_bestCost_218 : decode cX7_bestCost 218 = .ok (.iadd, 1) := by decide +kernel
theorem dX7_bestCost_219 : decode cX7_bestCost 219 = .ok (.iadd, 1) := by decide +kernel
theorem dX7_bestCost_220 : decode cX7_bestCost 220 = .ok (.iastore, 1) := by decide +kernel
theorem dX7_bestCost_221 : decode cX7_bestCost 221 = .ok (.iinc 2 1, 3) := by decide +kernel
theorem dX7_bestCost_224 : decode cX7_bestCost 224 = .ok (.goto (-105), 3) := by decide +kernel
theorem dX7_bestCost_227 : decode cX7_bestCost 227 = .ok (.iconst 0, 1) := by decide +kernel
theorem dX7_bestCost_228 : decode cX7_bestCost 228 = .ok (.istore_n 2, 1) := by decide +kernel
theorem dX7_bestCost_229 : decode cX7_bestCost 229 = .ok (.iload_n 2, 1) := by decide +kernel
theorem dX7_bestCost_230 : decode cX7_bestCost 230 = .ok (.aload_n 0, 1) := by decide +kernel
theorem dX7_bestCost_231 : decode cX7_bestCost 231 = .ok (.getfield 135, 3) := by decide +kernel
theorem dX7_bestCost_234 : decode cX7_bestCost 234 = .ok (.if_icmp .ge 84, 3) := by decide +kernel
theorem dX7_bestCost_237 : decode cX7_bestCost 237 = .ok (.aload_n 0, 1) := by decide +kernel
theorem dX7_bestCost_238 : decode cX7_bestCost 238 = .ok (.getfield 41, 3) := by decide +kernel
theorem dX7_bestCost_241 : decode cX7_bestCost 241 = .ok (.iload_n 2, 1) := by decide +kernel
theorem dX7_bestCost_242 : decode cX7_bestCost 242 = .ok (.ldc 141, 2) := by decide +kernel
theorem dX7_bestCost_244 : decode cX7_bestCost 244 = .ok (.iastore, 1) := by decide +kernel
theorem dX7_bestCost_245 : decode cX7_bestCost 245 = .ok (.iconst 0, 1) := by decide +kernel
theorem dX7_bestCost_246 : decode cX7_bestCost 246 = .ok (.istore_n 3, 1) := by decide +kernel
theorem dX7_bestCost_247 : decode cX7_bestCost 247 = .ok (.iload_n 3, 1) := by decide +kernel
theorem dX7_bestCost_248 : decode cX7_bestCost 248 = .ok (.aload_n 0, 1) := by decide +kernel
theorem dX7_bestCost_249 : decode cX7_bestCost 249 = .ok (.getfield 135, 3) := by decide +kernel
theorem dX7_bestCost_252 : decode cX7_bestCost 252 = .ok (.if_icmp .ge 60, 3) := by decide +kernel
theorem dX7_bestCost_255 : decode cX7_bestCost 255 = .ok (.aload_n 0, 1) := by decide +kernel
theorem dX7_bestCost_256 : decode cX7_bestCost 256 = .ok (.getfield 41, 3) := by decide +kernel
theorem dX7_bestCost_259 : decode cX7_bestCost 259 = .ok (.iload_n 2, 1) := by decide +kernel
theorem dX7_bestCost_260 : decode cX7_bestCost 260 = .ok (.aload_n 0, 1) := by decide +kernel
theorem dX7_bestCost_261 : decode cX7_bestCost 261 = .ok (.getfield 44, 3) := by decide +kernel
theorem dX7_bestCost_264 : decode cX7_bestCost 264 = .ok (.iload_n 3, 1) := by decide +kernel
theorem dX7_bestCost_265 : decode cX7_bestCost 265 = .ok (.iaload, 1) := by decide +kernel
theorem dX7_bestCost_266 : decode cX7_bestCost 266 = .ok (.aload_n 0, 1) := by decide +kernel
theorem dX7_bestCost_267 : decode cX7_bestCost 267 = .ok (.getfield 41, 3) := by decide +kernel
theorem dX7_bestCost_270 : decode cX7_bestCost 270 = .ok (.iload_n 2, 1) := by decide +kernel
theorem dX7_bestCost_271 : decode cX7_bestCost 271 = .ok (.iaload, 1) := by decide +kernel
theorem dX7_bestCost_272 : decode cX7_bestCost 272 = .ok (.if_icmp .ge 27, 3) := by decide +kernel
theorem dX7_bestCost_275 : decode cX7_bestCost 275 = .ok (.aload_n 0, 1) := by decide +kernel
theorem dX7_bestCost_276 : decode cX7_bestCost 276 = .ok (.iload_n 3, 1) := by decide +kernel
theorem dX7_bestCost_277 : decode cX7_bestCost 277 = .ok (.iload_n 2, 1) := by decide +kernel
theorem dX7_bestCost_278 : decode cX7_bestCost 278 = .ok (.aload_n 0, 1) := by decide +kernel
theorem dX7_bestCost_279 : decode cX7_bestCost 279 = .ok (.getfield 32, 3) := by decide +kernel
theorem dX7_bestCost_282 : decode cX7_bestCost 282 = .ok (.iload_n 1, 1) := by decide +kernel
theorem dX7_bestCost_283 : decode cX7_bestCost 283 = .ok (.iaload, 1) := by decide +kernel
theorem dX7_bestCost_284 : decode cX7_bestCost 284 = .ok (.invokevirtual 145, 3) := by decide +kernel
theorem dX7_bestCost_287 : decode cX7_bestCost 287 = .ok (.ifCond .eq 12, 3) := by decide +kernel
theorem dX7_bestCost_290 : decode cX7_bestCost 290 = .ok (.aload_n 0, 1) := by decide +kernel
theorem dX7_bestCost_291 : decode cX7_bestCost 291 = .ok (.getfield 44, 3) := by decide +kernel
theorem dX7_bestCost_294 : decode cX7_bestCost 294 = .ok (.iload_n 3, 1) := by decide +kernel
theorem dX7_bestCost_295 : decode cX7_bestCost 295 = .ok (.iaload, 1) := by decide +kernel
theorem dX7_bestCost_296 : decode cX7_bestCost 296 = .ok (.goto 9, 3) := by decide +kernel
theorem dX7_bestCost_299 : decode cX7_bestCost 299 = .ok (.aload_n 0, 1) := by decide +kernel
theorem dX7_bestCost_300 : decode cX7_bestCost 300 = .ok (.getfield 41, 3) := by decide +kernel
theorem dX7_bestCost_303 : decode cX7_bestCost 303 = .ok (.iload_n 2, 1) := by decide +kernel
theorem dX7_bestCost_304 : decode cX7_bestCost 304 = .ok (.iaload, 1) := by decide +kernel
theorem dX7_bestCost_305 : decode cX7_bestCost 305 = .ok (.iastore, 1) := by decide +kernel
theorem dX7_bestCost_306 : decode cX7_bestCost 306 = .ok (.iinc 3 1, 3) := by decide +kernel
theorem dX7_bestCost_309 : decode cX7_bestCost 309 = .ok (.goto (-62), 3) := by decide +kernel
theorem dX7_bestCost_312 : decode cX7_bestCost 312 = .ok (.iinc 2 1, 3) := by decide +kernel
theorem dX7_bestCost_315 : decode cX7_bestCost 315 = .ok (.goto (-86), 3) := by decide +kernel
theorem dX7_bestCost_318 : decode cX7_bestCost 318 = .ok (.iinc 1 1, 3) := by decide +kernel
theorem dX7_bestCost_321 : decode cX7_bestCost 321 = .ok (.goto (-212), 3) := by decide +kernel
theorem dX7_bestCost_324 : decode cX7_bestCost 324 = .ok (.aload_n 0, 1) := by decide +kernel
theorem dX7_bestCost_325 : decode cX7_bestCost 325 = .ok (.getfield 41, 3) := by decide +kernel
theorem dX7_bestCost_328 : decode cX7_bestCost 328 = .ok (.iconst 0, 1) := by decide +kernel
theorem dX7_bestCost_329 : decode cX7_bestCost 329 = .ok (.iaload, 1) := by decide +kernel
theorem dX7_bestCost_330 : decode cX7_bestCost 330 = .ok (.istore_n 1, 1) := by decide +kernel
theorem dX7_bestCost_331 : decode cX7_bestCost 331 = .ok (.iconst 1, 1) := by decide +kernel
theorem dX7_bestCost_332 : decode cX7_bestCost 332 = .ok (.istore_n 2, 1) := by decide +kernel
theorem dX7_bestCost_333 : decode cX7_bestCost 333 = .ok (.iload_n 2, 1) := by decide +kernel
theorem dX7_bestCost_334 : decode cX7_bestCost 334 = .ok (.aload_n 0, 1) := by decide +kernel
theorem dX7_bestCost_335 : decode cX7_bestCost 335 = .ok (.getfield 135, 3) := by decide +kernel
theorem dX7_bestCost_338 : decode cX7_bestCost 338 = .ok (.if_icmp .ge 30, 3) := by decide +kernel
theorem dX7_bestCost_341 : decode cX7_bestCost 341 = .ok (.aload_n 0, 1) := by decide +kernel
theorem dX7_bestCost_342 : decode cX7_bestCost 342 = .ok (.getfield 41, 3) := by decide +kernel
theorem dX7_bestCost_345 : decode cX7_bestCost 345 = .ok (.iload_n 2, 1) := by decide +kernel
theorem dX7_bestCost_346 : decode cX7_bestCost 346 = .ok (.iaload, 1) := by decide +kernel
theorem dX7_bestCost_347 : decode cX7_bestCost 347 = .ok (.iload_n 1, 1) := by decide +kernel
theorem dX7_bestCost_348 : decode cX7_bestCost 348 = .ok (.if_icmp .ge 12, 3) := by decide +kernel
theorem dX7_bestCost_351 : decode cX7_bestCost 351 = .ok (.aload_n 0, 1) := by decide +kernel
theorem dX7_bestCost_352 : decode cX7_bestCost 352 = .ok (.getfield 41, 3) := by decide +kernel
theorem dX7_bestCost_355 : decode cX7_bestCost 355 = .ok (.iload_n 2, 1) := by decide +kernel
theorem dX7_bestCost_356 : decode cX7_bestCost 356 = .ok (.iaload, 1) := by decide +kernel
theorem dX7_bestCost_357 : decode cX7_bestCost 357 = .ok (.goto 4, 3) := by decide +kernel
theorem dX7_bestCost_360 : decode cX7_bestCost 360 = .ok (.iload_n 1, 1) := by decide +kernel
theorem dX7_bestCost_361 : decode cX7_bestCost 361 = .ok (.istore_n 1, 1) := by decide +kernel
theorem dX7_bestCost_362 : decode cX7_bestCost 362 = .ok (.iinc 2 1, 3) := by decide +kernel
theorem dX7_bestCost_365 : decode cX7_bestCost 365 = .ok (.goto (-32), 3) := by decide +kernel
theorem dX7_bestCost_368 : decode cX7_bestCost 368 = .ok (.iload_n 1, 1) := by decide +kernel
theorem dX7_bestCost_369 : decode cX7_bestCost 369 = .ok (.ireturn, 1) := by decide +kernel
set_option maxRecDepth 20000 in
theorem ggX7_serve_X7_in : GoodIn wsX7_serve wsX7_in := goodIn_r _ [7] (by decide +kernel) (by decide +kernel)
set_option maxRecDepth 20000 in
theorem gX7_serve_X7_in : GoodIn wsX7_serve (va_wsS RX7 66 yX7_in wsX7_in) := goodIn_app (goodIn_of _ (by decide +kernel)) ggX7_serve_X7_in
set_option maxRecDepth 20000 in
theorem ggX7_serve_X7_frontCost : GoodIn wsX7_serve wsX7_frontCost := goodIn_r _ [11, 2, 12, 13, 14, 43, 44, 45, 46, 47, 48, 49, 50, 51, 52, 53, 54, 55, 56, 57, 58, 59, 60] (by decide +kernel) (by decide +kernel)
set_option maxRecDepth 20000 in
theorem gX7_serve_X7_frontCost : GoodIn wsX7_serve (wsV RX7 148 RX7 yX7_frontCost wsX7_frontCost) := goodIn_app (goodIn_of _ (by decide +kernel)) ggX7_serve_X7_frontCost
set_option maxRecDepth 20000 in
theorem ggX7_serve_X7_ordersOf : GoodIn wsX7_serve wsX7_ordersOf := goodIn_r _ [18, 1, 2, 3, 43, 44, 45, 46, 47, 48, 49, 50, 51, 52, 53, 54, 55, 56, 57, 58, 59, 60] (by decide +kernel) (by decide +kernel)
set_option maxRecDepth 20000 in
theorem gX7_serve_X7_ordersOf : GoodIn wsX7_serve (wsV RX7 151 RX7 yX7_ordersOf wsX7_ordersOf) := goodIn_app (goodIn_of _ (by decide +kernel)) ggX7_serve_X7_ordersOf
set_option maxRecDepth 20000 in
theorem ggX7_serve_X7_staysCost : GoodIn wsX7_serve wsX7_staysCost := goodIn_r _ [22, 13, 14, 23, 24, 25, 6, 26, 3, 43, 44, 45, 46, 47, 48, 49, 50, 51, 52, 53, 54, 55, 56, 57, 58, 59, 60] (by decide +kernel) (by decide +kernel)
set_option maxRecDepth 20000 in
theorem gX7_serve_X7_staysCost : GoodIn wsX7_serve (wsV RX7 154 RX7 yX7_staysCost wsX7_staysCost) := goodIn_app (goodIn_of _ (by decide +kernel)) ggX7_serve_X7_staysCost
set_option maxRecDepth 20000 in
theorem ggX7_serve_X7_bestCost : GoodIn wsX7_serve wsX7_bestCost := goodIn_r _ [30, 1, 2, 3, 31, 32, 33, 13, 34, 14, 35, 36, 37, 6, 38, 23, 24, 25, 26, 39, 40, 41, 42, 43, 44, 45, 46, 47, 48, 49, 50, 51, 52, 53, 54, 55, 56, 57, 58, 59, 60] (by decide +kernel) (by decide +kernel)
set_option maxRecDepth 20000 in
theorem gX7_serve_X7_bestCost : GoodIn wsX7_serve (wsV RX7 157 RX7 yX7_bestCost wsX7_bestCost) := goodIn_app (goodIn_of _ (by decide +kernel)) ggX7_serve_X7_bestCost
theorem dX7_serve_0 : decode cX7_serve 0 = .ok (.iload_n 1, 1) := by decide +kernel
theorem dX7_serve_1 : decode cX7_serve 1 = .ok (.iconst 0, 1) := by decide +kernel
theorem dX7_serve_2 : decode cX7_serve 2 = .ok (.iconst 3, 1) := by decide +kernel
theorem dX7_serve_3 : decode cX7_serve 3 = .ok (.invokestatic 66, 3) := by decide +kernel
theorem dX7_serve_6 : decode cX7_serve 6 = .ok (.ifCond .ne 5, 3) := by decide +kernel
theorem dX7_serve_9 : decode cX7_serve 9 = .ok (.iconst (-1), 1) := by decide +kernel
theorem dX7_serve_10 : decode cX7_serve 10 = .ok (.ireturn, 1) := by decide +kernel
theorem dX7_serve_11 : decode cX7_serve 11 = .ok (.iload_n 1, 1) := by decide +kernel
theorem dX7_serve_12 : decode cX7_serve 12 = .ok (.ifCond .ne 8, 3) := by decide +kernel
theorem dX7_serve_15 : decode cX7_serve 15 = .ok (.aload_n 0, 1) := by decide +kernel
theorem dX7_serve_16 : decode cX7_serve 16 = .ok (.invokevirtual 148, 3) := by decide +kernel
theorem dX7_serve_19 : decode cX7_serve 19 = .ok (.ireturn, 1) := by decide +kernel
theorem dX7_serve_20 : decode cX7_serve 20 = .ok (.aload_n 0, 1) := by decide +kernel
theorem dX7_serve_21 : decode cX7_serve 21 = .ok (.invokevirtual 151, 3) := by decide +kernel
theorem dX7_serve_24 : decode cX7_serve 24 = .ok (.iconst (-1), 1) := by decide +kernel
theorem dX7_serve_25 : decode cX7_serve 25 = .ok (.istore_n 2, 1) := by decide +kernel
theorem dX7_serve_26 : decode cX7_serve 26 = .ok (.iconst 0, 1) := by decide +kernel
theorem dX7_serve_27 : decode cX7_serve 27 = .ok (.istore_n 3, 1) := by decide +kernel
theorem dX7_serve_28 : decode cX7_serve 28 = .ok (.iconst 0, 1) := by decide +kernel
theorem dX7_serve_29 : decode cX7_serve 29 = .ok (.istore 4, 2) := by decide +kernel
theorem dX7_serve_31 : decode cX7_serve 31 = .ok (.iload 4, 2) := by decide +kernel
theorem dX7_serve_33 : decode cX7_serve 33 = .ok (.aload_n 0, 1) := by decide +kernel
theorem dX7_serve_34 : decode cX7_serve 34 = .ok (.getfield 135, 3) := by decide +kernel
theorem dX7_serve_37 : decode cX7_serve 37 = .ok (.if_icmp .ge 96, 3) := by decide +kernel
theorem dX7_serve_40 : decode cX7_serve 40 = .ok (.aload_n 0, 1) := by decide +kernel
theorem dX7_serve_41 : decode cX7_serve 41 = .ok (.iload 4, 2) := by decide +kernel
theorem dX7_serve_43 : decode cX7_serve 43 = .ok (.invokevirtual 154, 3) := by decide +kernel
theorem dX7_serve_46 : decode cX7_serve 46 = .ok (.istore 5, 2) := by decide +kernel
theorem dX7_serve_48 : decode cX7_serve 48 = .ok (.iconst 1, 1) := by decide +kernel
theorem dX7_serve_49 : decode cX7_serve 49 = .ok (.istore 6, 2) := by decide +kernel
theorem dX7_serve_51 : decode cX7_serve 51 = .ok (.iconst 0, 1) := by decide +kernel
theorem dX7_serve_52 : decode cX7_serve 52 = .ok (.istore 7, 2) := by decide +kernel
theorem dX7_serve_54 : decode cX7_serve 54 = .ok (.iload 7, 2) := by decide +kernel
theorem dX7_serve_56 : decode cX7_serve 56 = .ok (.aload_n 0, 1) := by decide +kernel
theorem dX7_serve_57 : decode cX7_serve 57 = .ok (.getfield 29, 3) := by decide +kernel
theorem dX7_serve_60 : decode cX7_serve 60 = .ok (.if_icmp .ge 38, 3) := by decide +kernel
theorem dX7_serve_63 : decode cX7_serve 63 = .ok (.iload 6, 2) := by decide +kernel
theorem dX7_serve_65 : decode cX7_serve 65 = .ok (.ifCond .eq 24, 3) := by decide +kernel
theorem dX7_serve_68 : decode cX7_serve 68 = .ok (.aload_n 0, 1) := by decide +kernel
theorem dX7_serve_69 : decode cX7_serve 69 = .ok (.getfield 38, 3) := by decide +kernel
theorem dX7_serve_72 : decode cX7_serve 72 = .ok (.iconst 4, 1) := by decide +kernel
theorem dX7_serve_73 : decode cX7_serve 73 = .ok (.iload 4, 2) := by decide +kernel
theorem dX7_serve_75 : decode cX7_serve 75 = .ok (.imul, 1) := by decide +kernel
theorem dX7_serve_76 : decode cX7_serve 76 = .ok (.iload 7, 2) := by decide +kernel
theorem dX7_serve_78 : decode cX7_serve 78 = .ok (.iadd, 1) := by decide +kernel
theorem dX7_serve_79 : decode cX7_serve 79 = .ok (.iaload, 1) := by decide +kernel
theorem dX7_serve_80 : decode cX7_serve 80 = .ok (.iload 7, 2) := by decide +kernel
theorem dX7_serve_82 : decode cX7_serve 82 = .ok (.if_icmp .ne 7, 3) := by decide +kernel
theorem dX7_serve_85 : decode cX7_serve 85 = .ok (.iconst 1, 1) := by decide +kernel
theorem dX7_serve_86 : decode cX7_serve 86 = .ok (.goto 4, 3) := by decide +kernel
theorem dX7_serve_89 : decode cX7_serve 89 = .ok (.iconst 0, 1) := by decide +kernel
theorem dX7_serve_90 : decode cX7_serve 90 = .ok (.istore 6, 2) := by decide +kernel
theorem dX7_serve_92 : decode cX7_serve 92 = .ok (.iinc 7 1, 3) := by decide +kernel
theorem dX7_serve_95 : decode cX7_serve 95 = .ok (.goto (-41), 3) := by decide +kernel
theorem dX7_serve_98 : decode cX7_serve 98 = .ok (.iload 6, 2) := by decide +kernel
theorem dX7_serve_100 : decode cX7_serve 100 = .ok (.ifCond .eq 8, 3) := by decide +kernel
theorem dX7_serve_103 : decode cX7_serve 103 = .ok (.iload 5, 2) := by decide +kernel
theorem dX7_serve_105 : decode cX7_serve 105 = .ok (.goto 4, 3) := by decide +kernel
theorem dX7_serve_108 : decode cX7_serve 108 = .ok (.iload_n 3, 1) := by decide +kernel
theorem dX7_serve_109 : decode cX7_serve 109 = .ok (.istore_n 3, 1) := by decide +kernel
theorem dX7_serve_110 : decode cX7_serve 110 = .ok (.iload_n 2, 1) := by decide +kernel
theorem dX7_serve_111 : decode cX7_serve 111 = .ok (.ifCond .lt 9, 3) := by decide +kernel
theorem dX7_serve_114 : decode cX7_serve 114 = .ok (.iload 5, 2) := by decide +kernel
theorem dX7_serve_116 : decode cX7_serve 116 = .ok (.iload_n 2, 1) := by decide +kernel
theorem dX7_serve_117 : decode cX7_serve 117 = .ok (.if_icmp .ge 8, 3) := by decide +kernel
theorem dX7_serve_120 : decode cX7_serve 120 = .ok (.iload 5, 2) := by decide +kernel
theorem dX7_serve_122 : decode cX7_serve 122 = .ok (.goto 4, 3) := by decide +kernel
theorem dX7_serve_125 : decode cX7_serve 125 = .ok (.iload_n 2, 1) := by decide +kernel
theorem dX7_serve_126 : decode cX7_serve 126 = .ok (.istore_n 2, 1) := by decide +kernel
theorem dX7_serve_127 : decode cX7_serve 127 = .ok (.iinc 4 1, 3) := by decide +kernel
theorem dX7_serve_130 : decode cX7_serve 130 = .ok (.goto (-99), 3) := by decide +kernel
theorem dX7_serve_133 : decode cX7_serve 133 = .ok (.iload_n 1, 1) := by decide +kernel
theorem dX7_serve_134 : decode cX7_serve 134 = .ok (.iconst 1, 1) := by decide +kernel
theorem dX7_serve_135 : decode cX7_serve 135 = .ok (.if_icmp .ne 7, 3) := by decide +kernel
theorem dX7_serve_138 : decode cX7_serve 138 = .ok (.iload_n 3, 1) := by decide +kernel
theorem dX7_serve_139 : decode cX7_serve 139 = .ok (.goto 16, 3) := by decide +kernel
theorem dX7_serve_142 : decode cX7_serve 142 = .ok (.iload_n 1, 1) := by decide +kernel
theorem dX7_serve_143 : decode cX7_serve 143 = .ok (.iconst 2, 1) := by decide +kernel
theorem dX7_serve_144 : decode cX7_serve 144 = .ok (.if_icmp .ne 7, 3) := by decide +kernel
theorem dX7_serve_147 : decode cX7_serve 147 = .ok (.iload_n 2, 1) := by decide +kernel
theorem dX7_serve_148 : decode cX7_serve 148 = .ok (.goto 7, 3) := by decide +kernel
theorem dX7_serve_151 : decode cX7_serve 151 = .ok (.aload_n 0, 1) := by decide +kernel
theorem dX7_serve_152 : decode cX7_serve 152 = .ok (.invokevirtual 157, 3) := by decide +kernel
theorem dX7_serve_155 : decode cX7_serve 155 = .ok (.ireturn, 1) := by decide +kernel
set_option maxRecDepth 20000 in
theorem ggX7_at_X7_in : GoodIn wsX7_at wsX7_in := goodIn_r _ [6] (by decide +kernel) (by decide +kernel)
set_option maxRecDepth 20000 in
theorem gX7_at_X7_in : GoodIn wsX7_at (va_wsS RX7 66 yX7_in wsX7_in) := goodIn_app (goodIn_of _ (by decide +kernel)) ggX7_at_X7_in
set_option maxRecDepth 20000 in
theorem ggX7_at_X7_frontCost : GoodIn wsX7_at wsX7_frontCost := goodIn_r _ [10, 1, 2, 11, 12, 13, 14, 15, 16, 17, 18, 19, 20, 21, 22, 23, 24, 25, 26, 27, 28, 29, 30] (by decide +kernel) (by decide +kernel)
set_option maxRecDepth 20000 in
theorem gX7_at_X7_frontCost : GoodIn wsX7_at (wsV RX7 148 RX7 yX7_frontCost wsX7_frontCost) := goodIn_app (goodIn_of _ (by decide +kernel)) ggX7_at_X7_frontCost
theorem dX7_at_0 : decode cX7_at 0 = .ok (.iload_n 1, 1) := by decide +kernel
theorem dX7_at_1 : decode cX7_at 1 = .ok (.iconst 1, 1) := by decide +kernel
theorem dX7_at_2 : decode cX7_at 2 = .ok (.aload_n 0, 1) := by decide +kernel
theorem dX7_at_3 : decode cX7_at 3 = .ok (.getfield 29, 3) := by decide +kernel
theorem dX7_at_6 : decode cX7_at 6 = .ok (.invokestatic 66, 3) := by decide +kernel
theorem dX7_at_9 : decode cX7_at 9 = .ok (.ifCond .ne 5, 3) := by decide +kernel
theorem dX7_at_12 : decode cX7_at 12 = .ok (.iconst (-1), 1) := by decide +kernel
theorem dX7_at_13 : decode cX7_at 13 = .ok (.ireturn, 1) := by decide +kernel
theorem dX7_at_14 : decode cX7_at 14 = .ok (.aload_n 0, 1) := by decide +kernel
theorem dX7_at_15 : decode cX7_at 15 = .ok (.invokevirtual 148, 3) := by decide +kernel
theorem dX7_at_18 : decode cX7_at 18 = .ok (.istore_n 2, 1) := by decide +kernel
theorem dX7_at_19 : decode cX7_at 19 = .ok (.aload_n 0, 1) := by decide +kernel
theorem dX7_at_20 : decode cX7_at 20 = .ok (.getfield 35, 3) := by decide +kernel
theorem dX7_at_23 : decode cX7_at 23 = .ok (.iload_n 1, 1) := by decide +kernel
theorem dX7_at_24 : decode cX7_at 24 = .ok (.iconst 1, 1) := by decide +kernel
theorem dX7_at_25 : decode cX7_at 25 = .ok (.isub, 1) := by decide +kernel
theorem dX7_at_26 : decode cX7_at 26 = .ok (.iaload, 1) := by decide +kernel
theorem dX7_at_27 : decode cX7_at 27 = .ok (.ireturn, 1) := by decide +kernel
theorem dX7_count_0 : decode cX7_count 0 = .ok (.iload_n 1, 1) := by decide +kernel
theorem dX7_count_1 : decode cX7_count 1 = .ok (.tableswitch 51 0 3 #[31, 36, 41, 46], 31) := by decide +kernel
theorem dX7_count_32 : decode cX7_count 32 = .ok (.aload_n 0, 1) := by decide +kernel
theorem dX7_count_33 : decode cX7_count 33 = .ok (.getfield 19, 3) := by decide +kernel
theorem dX7_count_36 : decode cX7_count 36 = .ok (.ireturn, 1) := by decide +kernel
theorem dX7_count_37 : decode cX7_count 37 = .ok (.aload_n 0, 1) := by decide +kernel
theorem dX7_count_38 : decode cX7_count 38 = .ok (.getfield 53, 3) := by decide +kernel
theorem dX7_count_41 : decode cX7_count 41 = .ok (.ireturn, 1) := by decide +kernel
theorem dX7_count_42 : decode cX7_count 42 = .ok (.aload_n 0, 1) := by decide +kernel
theorem dX7_count_43 : decode cX7_count 43 = .ok (.getfield 29, 3) := by decide +kernel
theorem dX7_count_46 : decode cX7_count 46 = .ok (.ireturn, 1) := by decide +kernel
theorem dX7_count_47 : decode cX7_count 47 = .ok (.aload_n 0, 1) := by decide +kernel
theorem dX7_count_48 : decode cX7_count 48 = .ok (.getfield 50, 3) := by decide +kernel
theorem dX7_count_51 : decode cX7_count 51 = .ok (.ireturn, 1) := by decide +kernel
theorem dX7_count_52 : decode cX7_count 52 = .ok (.iconst (-1), 1) := by decide +kernel
theorem dX7_count_53 : decode cX7_count 53 = .ok (.ireturn, 1) := by decide +kernel
theorem dX7_trace_0 : decode cX7_trace 0 = .ok (.aload_n 0, 1) := by decide +kernel
theorem dX7_trace_1 : decode cX7_trace 1 = .ok (.getfield 73, 3) := by decide +kernel
theorem dX7_trace_4 : decode cX7_trace 4 = .ok (.lreturn, 1) := by decide +kernel
theorem dJ9_max_f86c9_0 : decode cJ9_max_f86c9 0 = .ok (.lload_n 0, 1) := by decide +kernel
theorem dJ9_max_f86c9_1 : decode cJ9_max_f86c9 1 = .ok (.lload_n 2, 1) := by decide +kernel
theorem dJ9_max_f86c9_2 : decode cJ9_max_f86c9 2 = .ok (.lcmp, 1) := by decide +kernel
theorem dJ9_max_f86c9_3 : decode cJ9_max_f86c9 3 = .ok (.ifCond .lt 7, 3) := by decide +kernel
theorem dJ9_max_f86c9_6 : decode cJ9_max_f86c9 6 = .ok (.lload_n 0, 1) := by decide +kernel
theorem dJ9_max_f86c9_7 : decode cJ9_max_f86c9 7 = .ok (.goto 4, 3) := by decide +kernel
theorem dJ9_max_f86c9_10 : decode cJ9_max_f86c9 10 = .ok (.lload_n 2, 1) := by decide +kernel
theorem dJ9_max_f86c9_11 : decode cJ9_max_f86c9 11 = .ok (.lreturn, 1) := by decide +kernel
theorem dJ9_min_7cf53_0 : decode cJ9_min_7cf53 0 = .ok (.iload_n 0, 1) := by decide +kernel
theorem dJ9_min_7cf53_1 : decode cJ9_min_7cf53 1 = .ok (.iload_n 1, 1) := by decide +kernel
theorem dJ9_min_7cf53_2 : decode cJ9_min_7cf53 2 = .ok (.if_icmp .gt 7, 3) := by decide +kernel
theorem dJ9_min_7cf53_5 : decode cJ9_min_7cf53 5 = .ok (.iload_n 0, 1) := by decide +kernel
theorem dJ9_min_7cf53_6 : decode cJ9_min_7cf53 6 = .ok (.goto 4, 3) := by decide +kernel
theorem dJ9_min_7cf53_9 : decode cJ9_min_7cf53 9 = .ok (.iload_n 1, 1) := by decide +kernel
theorem dJ9_min_7cf53_10 : decode cJ9_min_7cf53 10 = .ok (.ireturn, 1) := by decide +kernel
theorem dJ9_min_f86c9_0 : decode cJ9_min_f86c9 0 = .ok (.lload_n 0, 1) := by decide +kernel
theorem dJ9_min_f86c9_1 : decode cJ9_min_f86c9 1 = .ok (.lload_n 2, 1) := by decide +kernel
theorem dJ9_min_f86c9_2 : decode cJ9_min_f86c9 2 = .ok (.lcmp, 1) := by decide +kernel
theorem dJ9_min_f86c9_3 : decode cJ9_min_f86c9 3 = .ok (.ifCond .gt 7, 3) := by decide +kernel
theorem dJ9_min_f86c9_6 : decode cJ9_min_f86c9 6 = .ok (.lload_n 0, 1) := by decide +kernel
theorem dJ9_min_f86c9_7 : decode cJ9_min_f86c9 7 = .ok (.goto 4, 3) := by decide +kernel
theorem dJ9_min_f86c9_10 : decode cJ9_min_f86c9 10 = .ok (.lload_n 2, 1) := by decide +kernel
theorem dJ9_min_f86c9_11 : decode cJ9_min_f86c9 11 = .ok (.lreturn, 1) := by decide +kernel
set_option maxRecDepth 20000 in
theorem ggL_law_X6_init : GoodIn wsL_law wsX6_init := goodIn_r _ [8, 9, 10, 11, 12, 13, 14, 15, 16, 17, 18, 19, 20, 21, 22, 23, 24, 25, 26, 27, 28, 29, 30, 31, 32, 33, 34, 35, 36, 37, 38, 39, 40, 41, 42, 43, 44, 45, 46, 47, 48, 49, 50, 51, 52, 53, 54, 55, 56, 57, 58, 59, 60, 61, 62, 63, 64, 65, 66, 67, 68, 593, 594, 595, 571, 572, 573, 574, 596, 597, 598, 599, 600, 601, 602, 603, 604, 605, 606, 607, 608, 609, 610, 611, 612] (by decide +kernel) (by decide +kernel)
set_option maxRecDepth 20000 in
theorem gL_law_X6_init : GoodIn wsL_law (wsX6_init) := ggL_law_X6_init
set_option maxRecDepth 20000 in
theorem ggL_law_X7_init : GoodIn wsL_law wsX7_init := goodIn_r _ [71, 72, 10, 11, 73, 74, 75, 76, 34, 77, 78, 79, 80, 81, 82, 83, 84, 85, 86, 575, 576, 577, 578, 579, 580, 581, 582, 583, 584, 585, 586, 587, 588, 589, 590, 591, 592] (by decide +kernel) (by decide +kernel)
set_option maxRecDepth 20000 in
theorem gL_law_X7_init : GoodIn wsL_law (wsX7_init) := ggL_law_X7_init
set_option maxRecDepth 20000 in
theorem ggL_law_X6_offer : GoodIn wsL_law wsX6_offer := goodIn_r _ [90, 15, 91, 31, 32, 92, 93, 94, 95, 96, 97, 98, 99, 2, 100, 101, 37, 38, 39, 10, 11, 40, 41, 102, 103, 104, 105, 106, 107, 108, 109, 110, 111, 112, 113, 114, 14, 115, 33, 35, 116, 117, 118, 119, 120, 121, 122, 123, 124, 125, 126, 127, 128, 129, 130, 131, 132, 133, 134, 135, 136, 137, 138, 139, 140, 141, 142, 571, 572, 573, 574, 604, 605, 610, 611, 612, 606, 607, 608, 609, 593, 594, 595] (by decide +kernel) (by decide +kernel)
set_option maxRecDepth 20000 in
theorem gL_law_X6_offer : GoodIn wsL_law (wsV RL 13 RX6 yX6_offer wsX6_offer) := goodIn_app (goodIn_of _ (by decide +kernel)) ggL_law_X6_offer
set_option maxRecDepth 20000 in
theorem ggL_law_X7_offer : GoodIn wsL_law wsX7_offer := goodIn_r _ [146, 147, 73, 148, 74, 75, 76, 149, 150, 5, 151, 152, 153, 154, 155, 156, 157, 158, 159, 160, 161, 162, 163, 575, 576, 577, 578, 579, 580, 581, 582, 583, 584, 585, 586, 587, 588, 589, 590, 591, 592] (by decide +kernel) (by decide +kernel)
set_option maxRecDepth 20000 in
theorem gL_law_X7_offer : GoodIn wsL_law (wsV RL 17 RX7 yX7_offer wsX7_offer) := goodIn_app (goodIn_of _ (by decide +kernel)) ggL_law_X7_offer
set_option maxRecDepth 20000 in
theorem ggL_law_X6_ends : GoodIn wsL_law wsX6_ends := goodIn_r _ [167, 15, 19, 98, 99, 2, 100, 168, 169, 170, 18, 171, 46, 47, 571, 572, 573, 574, 593, 594, 595, 596, 597] (by decide +kernel) (by decide +kernel)
set_option maxRecDepth 20000 in
theorem gL_law_X6_ends : GoodIn wsL_law (wsV RL 18 RX6 yX6_ends wsX6_ends) := goodIn_app (goodIn_of _ (by decide +kernel)) ggL_law_X6_ends
set_option maxRecDepth 20000 in
theorem ggL_law_X7_ends : GoodIn wsL_law wsX7_ends := goodIn_r _ [175, 76, 77, 78, 149, 150, 5, 151, 575, 576, 577, 578, 579, 580, 581, 582, 583, 584, 585, 586, 587, 588, 589, 590, 591, 592] (by decide +kernel) (by decide +kernel)
set_option maxRecDepth 20000 in
theorem gL_law_X7_ends : GoodIn wsL_law (wsV RL 22 RX7 yX7_ends wsX7_ends) := goodIn_app (goodIn_of _ (by decide +kernel)) ggL_law_X7_ends
set_option maxRecDepth 20000 in
theorem ggL_law_X6_rent : GoodIn wsL_law wsX6_rent := goodIn_r _ [179, 24, 15, 98, 99, 2, 100, 180, 181, 182, 183, 184, 97, 185, 186, 187, 128, 188, 94, 189, 190, 132, 191, 32, 192, 193, 194, 195, 196, 117, 118, 119, 120, 121, 110, 122, 123, 124, 125, 126, 127, 129, 130, 105, 131, 133, 134, 40, 197, 136, 137, 571, 572, 573, 574, 593, 594, 595, 606, 607, 608, 609, 610, 611, 612, 604, 605] (by decide +kernel) (by decide +kernel)
set_option maxRecDepth 20000 in
theorem gL_law_X6_rent : GoodIn wsL_law (wsV RL 23 RX6 yX6_rent wsX6_rent) := goodIn_app (goodIn_of _ (by decide +kernel)) ggL_law_X6_rent
set_option maxRecDepth 20000 in
theorem ggL_law_X7_rent : GoodIn wsL_law wsX7_rent := goodIn_r _ [201, 202, 147, 203, 204, 149, 150, 5, 151, 160, 161, 162, 163, 73, 148, 74, 575, 576, 577, 578, 579, 580, 581, 582, 583, 584, 585, 586, 587, 588, 589, 590, 591, 592] (by decide +kernel) (by decide +kernel)
set_option maxRecDepth 20000 in
theorem gL_law_X7_rent : GoodIn wsL_law (wsV RL 26 RX7 yX7_rent wsX7_rent) := goodIn_app (goodIn_of _ (by decide +kernel)) ggL_law_X7_rent
set_option maxRecDepth 20000 in
theorem ggL_law_X6_cost : GoodIn wsL_law wsX6_cost := goodIn_r _ [208, 15, 209, 210, 211, 14, 212, 29, 99, 2, 100, 213, 214, 215, 216, 217, 218, 219, 220, 35, 33, 571, 572, 573, 574, 593, 594, 595, 606, 607, 608, 609, 604, 605, 610, 611, 612] (by decide +kernel) (by decide +kernel)
set_option maxRecDepth 20000 in
theorem gL_law_X6_cost : GoodIn wsL_law (wsV RL 27 RX6 yX6_cost wsX6_cost) := goodIn_app (goodIn_of _ (by decide +kernel)) ggL_law_X6_cost
set_option maxRecDepth 20000 in
theorem ggL_law_X7_cost : GoodIn wsL_law wsX7_cost := goodIn_r _ [224, 225, 226, 227, 5, 228, 76, 149, 150, 151, 229, 230, 231, 232, 233, 234, 235, 236, 75, 156, 157, 158, 159, 160, 161, 162, 163, 73, 147, 148, 74, 575, 576, 577, 578, 579, 580, 581, 582, 583, 584, 585, 586, 587, 588, 589, 590, 591, 592] (by decide +kernel) (by decide +kernel)
set_option maxRecDepth 20000 in
theorem gL_law_X7_cost : GoodIn wsL_law (wsV RL 31 RX7 yX7_cost wsX7_cost) := goodIn_app (goodIn_of _ (by decide +kernel)) ggL_law_X7_cost
set_option maxRecDepth 20000 in
theorem ggL_law_X6_known : GoodIn wsL_law wsX6_known := goodIn_r _ [240, 15, 213, 214, 215, 14, 216, 29, 99, 2, 100, 138, 139, 140, 141, 33, 35, 142, 123, 124, 125, 571, 572, 573, 574, 593, 594, 595, 606, 607, 608, 609, 604, 605, 610, 611, 612] (by decide +kernel) (by decide +kernel)
set_option maxRecDepth 20000 in
theorem gL_law_X6_known : GoodIn wsL_law (wsV RL 32 RX6 yX6_known wsX6_known) := goodIn_app (goodIn_of _ (by decide +kernel)) ggL_law_X6_known
set_option maxRecDepth 20000 in
theorem ggL_law_X7_known : GoodIn wsL_law wsX7_known := goodIn_r _ [244, 229, 230, 231, 5, 232, 76, 149, 150, 151, 152, 153, 154, 155, 75, 156, 157, 158, 159, 160, 161, 162, 163, 73, 147, 148, 74, 575, 576, 577, 578, 579, 580, 581, 582, 583, 584, 585, 586, 587, 588, 589, 590, 591, 592] (by decide +kernel) (by decide +kernel)
set_option maxRecDepth 20000 in
theorem gL_law_X7_known : GoodIn wsL_law (wsV RL 35 RX7 yX7_known wsX7_known) := goodIn_app (goodIn_of _ (by decide +kernel)) ggL_law_X7_known
set_option maxRecDepth 20000 in
theorem ggL_law_X6_ratio : GoodIn wsL_law wsX6_ratio := goodIn_r _ [248, 15, 209, 210, 211, 14, 212, 29, 99, 2, 100, 213, 214, 215, 216, 98, 249, 250, 251, 252, 253, 254, 255, 256, 257, 218, 219, 220, 35, 33, 258, 139, 140, 141, 142, 123, 124, 125, 259, 260, 261, 262, 263, 264, 265, 266, 267, 268, 269, 270, 571, 572, 573, 574, 593, 594, 595, 606, 607, 608, 609, 604, 605, 610, 611, 612] (by decide +kernel) (by decide +kernel)
set_option maxRecDepth 20000 in
theorem gL_law_X6_ratio : GoodIn wsL_law (wsV RL 36 RX6 yX6_ratio wsX6_ratio) := goodIn_app (goodIn_of _ (by decide +kernel)) ggL_law_X6_ratio
set_option maxRecDepth 20000 in
theorem ggL_law_X7_ratio : GoodIn wsL_law wsX7_ratio := goodIn_r _ [274, 225, 226, 227, 5, 228, 76, 149, 150, 151, 229, 230, 231, 232, 275, 276, 277, 278, 233, 234, 235, 236, 75, 156, 157, 158, 159, 160, 161, 162, 163, 73, 147, 148, 74, 152, 153, 154, 155, 279, 280, 281, 575, 576, 577, 578, 579, 580, 581, 582, 583, 584, 585, 586, 587, 588, 589, 590, 591, 592] (by decide +kernel) (by decide +kernel)
set_option maxRecDepth 20000 in
theorem gL_law_X7_ratio : GoodIn wsL_law (wsV RL 40 RX7 yX7_ratio wsX7_ratio) := goodIn_app (goodIn_of _ (by decide +kernel)) ggL_law_X7_ratio
set_option maxRecDepth 20000 in
theorem ggL_law_X6_sure : GoodIn wsL_law wsX6_sure := goodIn_r _ [285, 15, 286, 287, 288, 14, 289, 29, 290, 250, 251, 252, 253, 254, 255, 256, 257, 218, 219, 220, 35, 33, 258, 139, 140, 141, 142, 123, 124, 125, 571, 572, 573, 574, 593, 594, 595, 606, 607, 608, 609, 604, 605, 610, 611, 612] (by decide +kernel) (by decide +kernel)
set_option maxRecDepth 20000 in
theorem gL_law_X6_sure : GoodIn wsL_law (wsV RL 41 RX6 yX6_sure wsX6_sure) := goodIn_app (goodIn_of _ (by decide +kernel)) ggL_law_X6_sure
set_option maxRecDepth 20000 in
theorem ggL_law_X7_sure : GoodIn wsL_law wsX7_sure := goodIn_r _ [294, 295, 296, 297, 5, 298, 76, 275, 276, 277, 278, 233, 234, 235, 236, 75, 156, 157, 158, 159, 160, 161, 162, 163, 73, 147, 148, 74, 152, 153, 154, 155, 575, 576, 577, 578, 579, 580, 581, 582, 583, 584, 585, 586, 587, 588, 589, 590, 591, 592] (by decide +kernel) (by decide +kernel)
set_option maxRecDepth 20000 in
theorem gL_law_X7_sure : GoodIn wsL_law (wsV RL 45 RX7 yX7_sure wsX7_sure) := goodIn_app (goodIn_of _ (by decide +kernel)) ggL_law_X7_sure
set_option maxRecDepth 20000 in
theorem ggL_law_X6_share : GoodIn wsL_law wsX6_share := goodIn_r _ [302, 15, 19, 98, 99, 2, 100, 209, 210, 211, 14, 212, 29, 213, 214, 215, 216, 303, 304, 18, 305, 571, 572, 573, 574, 596, 597, 593, 594, 595] (by decide +kernel) (by decide +kernel)
set_option maxRecDepth 20000 in
theorem gL_law_X6_share : GoodIn wsL_law (wsV RL 46 RX6 yX6_share wsX6_share) := goodIn_app (goodIn_of _ (by decide +kernel)) ggL_law_X6_share
set_option maxRecDepth 20000 in
theorem ggL_law_X7_share : GoodIn wsL_law wsX7_share := goodIn_r _ [309, 77, 78, 149, 150, 5, 151, 225, 226, 227, 228, 76, 229, 230, 231, 232, 575, 576, 577, 578, 579, 580, 581, 582, 583, 584, 585, 586, 587, 588, 589, 590, 591, 592] (by decide +kernel) (by decide +kernel)
set_option maxRecDepth 20000 in
theorem gL_law_X7_share : GoodIn wsL_law (wsV RL 49 RX7 yX7_share wsX7_share) := goodIn_app (goodIn_of _ (by decide +kernel)) ggL_law_X7_share
set_option maxRecDepth 20000 in
theorem ggL_law_X6_mean : GoodIn wsL_law wsX6_mean := goodIn_r _ [313, 15, 314, 19, 315, 213, 214, 215, 14, 216, 29, 99, 2, 100, 98, 316, 317, 18, 318, 319, 320, 321, 322, 46, 323, 218, 219, 220, 35, 33, 138, 139, 140, 141, 142, 123, 124, 125, 324, 263, 264, 265, 266, 267, 268, 269, 270, 571, 572, 573, 574, 596, 597, 593, 594, 595, 606, 607, 608, 609, 604, 605, 610, 611, 612] (by decide +kernel) (by decide +kernel)
set_option maxRecDepth 20000 in
theorem gL_law_X6_mean : GoodIn wsL_law (wsV RL 50 RX6 yX6_mean wsX6_mean) := goodIn_app (goodIn_of _ (by decide +kernel)) ggL_law_X6_mean
set_option maxRecDepth 20000 in
theorem ggL_law_X7_mean : GoodIn wsL_law wsX7_mean := goodIn_r _ [328, 329, 330, 229, 230, 231, 5, 232, 76, 149, 150, 151, 331, 332, 333, 334, 77, 335, 336, 337, 338, 233, 234, 235, 236, 75, 156, 157, 158, 159, 160, 161, 162, 163, 73, 147, 148, 74, 152, 153, 154, 155, 279, 280, 281, 575, 576, 577, 578, 579, 580, 581, 582, 583, 584, 585, 586, 587, 588, 589, 590, 591, 592] (by decide +kernel) (by decide +kernel)
set_option maxRecDepth 20000 in
theorem gL_law_X7_mean : GoodIn wsL_law (wsV RL 54 RX7 yX7_mean wsX7_mean) := goodIn_app (goodIn_of _ (by decide +kernel)) ggL_law_X7_mean
set_option maxRecDepth 20000 in
theorem ggL_law_X6_bound : GoodIn wsL_law wsX6_bound := goodIn_r _ [342, 19, 15, 98, 99, 2, 100, 316, 317, 18, 318, 343, 344, 345, 346, 347, 348, 349, 124, 350, 351, 320, 321, 322, 46, 323, 218, 219, 14, 220, 35, 33, 352, 139, 140, 141, 142, 123, 125, 353, 354, 268, 269, 270, 355, 356, 357, 358, 359, 360, 361, 362, 363, 364, 365, 47, 366, 571, 572, 573, 574, 596, 597, 593, 594, 595, 606, 607, 608, 609, 604, 605, 610, 611, 612] (by decide +kernel) (by decide +kernel)
set_option maxRecDepth 20000 in
theorem gL_law_X6_bound : GoodIn wsL_law (wsV RL 55 RX6 yX6_bound wsX6_bound) := goodIn_app (goodIn_of _ (by decide +kernel)) ggL_law_X6_bound
set_option maxRecDepth 20000 in
theorem ggL_law_X7_bound : GoodIn wsL_law wsX7_bound := goodIn_r _ [370, 149, 150, 5, 151, 371, 372, 373, 374, 76, 375, 331, 332, 333, 334, 77, 152, 153, 154, 155, 75, 156, 157, 158, 159, 160, 161, 162, 163, 73, 147, 148, 74, 335, 336, 337, 338, 233, 234, 235, 236, 376, 377, 378, 379, 78, 329, 380, 575, 576, 577, 578, 579, 580, 581, 582, 583, 584, 585, 586, 587, 588, 589, 590, 591, 592] (by decide +kernel) (by decide +kernel)
set_option maxRecDepth 20000 in
theorem gL_law_X7_bound : GoodIn wsL_law (wsV RL 58 RX7 yX7_bound wsX7_bound) := goodIn_app (goodIn_of _ (by decide +kernel)) ggL_law_X7_bound
set_option maxRecDepth 20000 in
theorem ggL_law_X6_guess : GoodIn wsL_law wsX6_guess := goodIn_r _ [384, 15, 213, 214, 215, 14, 216, 29, 99, 2, 100, 98, 385, 386, 387, 388, 35, 389, 390, 360, 124, 361, 391, 287, 288, 289, 290, 250, 251, 252, 253, 254, 255, 256, 257, 218, 219, 220, 33, 258, 139, 140, 141, 142, 123, 125, 353, 354, 268, 269, 270, 571, 572, 573, 574, 593, 594, 595, 606, 607, 608, 609, 604, 605, 610, 611, 612] (by decide +kernel) (by decide +kernel)
set_option maxRecDepth 20000 in
theorem gL_law_X6_guess : GoodIn wsL_law (wsV RL 59 RX6 yX6_guess wsX6_guess) := goodIn_app (goodIn_of _ (by decide +kernel)) ggL_law_X6_guess
set_option maxRecDepth 20000 in
theorem ggL_law_X7_guess : GoodIn wsL_law wsX7_guess := goodIn_r _ [395, 229, 230, 231, 5, 232, 76, 149, 150, 151, 396, 397, 398, 399, 400, 401, 402, 75, 295, 296, 297, 298, 275, 276, 277, 278, 233, 234, 235, 236, 156, 157, 158, 159, 160, 161, 162, 163, 73, 147, 148, 74, 152, 153, 154, 155, 575, 576, 577, 578, 579, 580, 581, 582, 583, 584, 585, 586, 587, 588, 589, 590, 591, 592] (by decide +kernel) (by decide +kernel)
set_option maxRecDepth 20000 in
theorem gL_law_X7_guess : GoodIn wsL_law (wsV RL 62 RX7 yX7_guess wsX7_guess) := goodIn_app (goodIn_of _ (by decide +kernel)) ggL_law_X7_guess
set_option maxRecDepth 20000 in
theorem ggL_law_X6_trust : GoodIn wsL_law wsX6_trust := goodIn_r _ [406, 15, 213, 214, 215, 14, 216, 29, 99, 2, 100, 98, 385, 386, 387, 388, 35, 389, 390, 360, 124, 361, 391, 287, 288, 289, 290, 250, 251, 252, 253, 254, 255, 256, 257, 218, 219, 220, 33, 258, 139, 140, 141, 142, 123, 125, 353, 354, 268, 269, 270, 249, 259, 260, 261, 262, 263, 264, 265, 266, 267, 571, 572, 573, 574, 593, 594, 595, 606, 607, 608, 609, 604, 605, 610, 611, 612] (by decide +kernel) (by decide +kernel)
set_option maxRecDepth 20000 in
theorem gL_law_X6_trust : GoodIn wsL_law (wsV RL 63 RX6 yX6_trust wsX6_trust) := goodIn_app (goodIn_of _ (by decide +kernel)) ggL_law_X6_trust
set_option maxRecDepth 20000 in
theorem ggL_law_X7_trust : GoodIn wsL_law wsX7_trust := goodIn_r _ [410, 229, 230, 231, 5, 232, 76, 149, 150, 151, 396, 397, 398, 399, 400, 401, 402, 75, 295, 296, 297, 298, 275, 276, 277, 278, 233, 234, 235, 236, 156, 157, 158, 159, 160, 161, 162, 163, 73, 147, 148, 74, 152, 153, 154, 155, 411, 272, 273, 274, 225, 226, 227, 228, 279, 280, 281, 575, 576, 577, 578, 579, 580, 581, 582, 583, 584, 585, 586, 587, 588, 589, 590, 591, 592] (by decide +kernel) (by decide +kernel)
set_option maxRecDepth 20000 in
theorem gL_law_X7_trust : GoodIn wsL_law (wsV RL 67 RX7 yX7_trust wsX7_trust) := goodIn_app (goodIn_of _ (by decide +kernel)) ggL_law_X7_trust
set_option maxRecDepth 20000 in
theorem ggL_law_X6_list : GoodIn wsL_law wsX6_list := goodIn_r _ [415, 23, 98, 99, 2, 100, 416, 417, 418, 22, 419, 55, 56, 57, 58, 59, 60, 61, 53, 62, 63, 64, 65, 66, 67, 68, 571, 572, 573, 574, 598, 599, 600, 601, 602, 603] (by decide +kernel) (by decide +kernel)
set_option maxRecDepth 20000 in
theorem gL_law_X6_list : GoodIn wsL_law (wsV RL 68 RX6 yX6_list wsX6_list) := goodIn_app (goodIn_of _ (by decide +kernel)) ggL_law_X6_list
set_option maxRecDepth 20000 in
theorem ggL_law_X7_list : GoodIn wsL_law wsX7_list := goodIn_r _ [423, 79, 86, 149, 150, 5, 151, 575, 576, 577, 578, 579, 580, 581, 582, 583, 584, 585, 586, 587, 588, 589, 590, 591, 592] (by decide +kernel) (by decide +kernel)
set_option maxRecDepth 20000 in
theorem gL_law_X7_list : GoodIn wsL_law (wsV RL 71 RX7 yX7_list wsX7_list) := goodIn_app (goodIn_of _ (by decide +kernel)) ggL_law_X7_list
set_option maxRecDepth 20000 in
theorem ggL_law_X6_request : GoodIn wsL_law wsX6_request := goodIn_r _ [427, 23, 98, 99, 2, 100, 571, 572, 573, 574, 598, 599, 600, 601, 602, 603] (by decide +kernel) (by decide +kernel)
set_option maxRecDepth 20000 in
theorem gL_law_X6_request : GoodIn wsL_law (wsV RL 72 RX6 yX6_request wsX6_request) := goodIn_app (goodIn_of _ (by decide +kernel)) ggL_law_X6_request
set_option maxRecDepth 20000 in
theorem ggL_law_X7_request : GoodIn wsL_law wsX7_request := goodIn_r _ [431, 79, 86, 80, 149, 150, 5, 151, 575, 576, 577, 578, 579, 580, 581, 582, 583, 584, 585, 586, 587, 588, 589, 590, 591, 592] (by decide +kernel) (by decide +kernel)
set_option maxRecDepth 20000 in
theorem gL_law_X7_request : GoodIn wsL_law (wsV RL 75 RX7 yX7_request wsX7_request) := goodIn_app (goodIn_of _ (by decide +kernel)) ggL_law_X7_request
set_option maxRecDepth 20000 in
theorem ggL_law_X6_drop : GoodIn wsL_law wsX6_drop := goodIn_r _ [435, 23, 571, 572, 573, 574, 598, 599, 600, 601, 602, 603] (by decide +kernel) (by decide +kernel)
set_option maxRecDepth 20000 in
theorem gL_law_X6_drop : GoodIn wsL_law (wsV RL 76 RX6 yX6_drop wsX6_drop) := goodIn_app (goodIn_of _ (by decide +kernel)) ggL_law_X6_drop
set_option maxRecDepth 20000 in
theorem ggL_law_X7_drop : GoodIn wsL_law wsX7_drop := goodIn_r _ [439, 86, 575, 576, 577, 578, 579, 580, 581, 582, 583, 584, 585, 586, 587, 588, 589, 590, 591, 592] (by decide +kernel) (by decide +kernel)
set_option maxRecDepth 20000 in
theorem gL_law_X7_drop : GoodIn wsL_law (wsV RL 79 RX7 yX7_drop wsX7_drop) := goodIn_app (goodIn_of _ (by decide +kernel)) ggL_law_X7_drop
set_option maxRecDepth 20000 in
theorem ggL_law_X6_serve : GoodIn wsL_law wsX6_serve := goodIn_r _ [443, 23, 444, 445, 446, 22, 447, 56, 52, 448, 449, 450, 451, 55, 452, 453, 454, 455, 66, 67, 68, 456, 457, 458, 459, 460, 461, 462, 463, 464, 465, 466, 467, 468, 469, 470, 471, 472, 61, 53, 473, 123, 124, 125, 474, 475, 476, 477, 478, 54, 479, 480, 481, 482, 483, 484, 485, 486, 487, 488, 489, 490, 491, 492, 493, 494, 571, 572, 573, 574, 598, 599, 600, 601, 602, 603] (by decide +kernel) (by decide +kernel)
set_option maxRecDepth 20000 in
theorem gL_law_X6_serve : GoodIn wsL_law (wsV RL 80 RX6 yX6_serve wsX6_serve) := goodIn_app (goodIn_of _ (by decide +kernel)) ggL_law_X6_serve
set_option maxRecDepth 20000 in
theorem ggL_law_X7_serve : GoodIn wsL_law wsX7_serve := goodIn_r _ [498, 499, 79, 82, 149, 150, 5, 151, 500, 501, 502, 503, 81, 86, 80, 504, 505, 506, 507, 508, 509, 510, 511, 512, 513, 514, 515, 516, 517, 518, 519, 83, 520, 85, 84, 521, 522, 523, 524, 525, 526, 527, 528, 575, 576, 577, 578, 579, 580, 581, 582, 583, 584, 585, 586, 587, 588, 589, 590, 591, 592] (by decide +kernel) (by decide +kernel)
set_option maxRecDepth 20000 in
theorem gL_law_X7_serve : GoodIn wsL_law (wsV RL 83 RX7 yX7_serve wsX7_serve) := goodIn_app (goodIn_of _ (by decide +kernel)) ggL_law_X7_serve
set_option maxRecDepth 20000 in
theorem ggL_law_X6_at : GoodIn wsL_law wsX6_at := goodIn_r _ [532, 23, 98, 99, 2, 100, 533, 534, 535, 22, 536, 56, 52, 448, 449, 450, 451, 55, 456, 457, 458, 459, 452, 453, 454, 455, 66, 67, 68, 460, 461, 462, 537, 571, 572, 573, 574, 598, 599, 600, 601, 602, 603] (by decide +kernel) (by decide +kernel)
set_option maxRecDepth 20000 in
theorem gL_law_X6_at : GoodIn wsL_law (wsV RL 84 RX6 yX6_at wsX6_at) := goodIn_app (goodIn_of _ (by decide +kernel)) ggL_law_X6_at
set_option maxRecDepth 20000 in
theorem ggL_law_X7_at : GoodIn wsL_law wsX7_at := goodIn_r _ [541, 79, 81, 149, 150, 5, 151, 500, 501, 502, 503, 86, 80, 575, 576, 577, 578, 579, 580, 581, 582, 583, 584, 585, 586, 587, 588, 589, 590, 591, 592] (by decide +kernel) (by decide +kernel)
set_option maxRecDepth 20000 in
theorem gL_law_X7_at : GoodIn wsL_law (wsV RL 87 RX7 yX7_at wsX7_at) := goodIn_app (goodIn_of _ (by decide +kernel)) ggL_law_X7_at
set_option maxRecDepth 20000 in
theorem ggL_law_X6_count : GoodIn wsL_law wsX6_count := goodIn_r _ [545, 15, 23, 546, 547, 548, 549, 550, 97, 551, 552, 553, 554, 555, 32, 556, 557, 94, 558, 571, 572, 573, 574, 593, 594, 595, 598, 599, 600, 601, 602, 603] (by decide +kernel) (by decide +kernel)
set_option maxRecDepth 20000 in
theorem gL_law_X6_count : GoodIn wsL_law (wsV RL 88 RX6 yX6_count wsX6_count) := goodIn_app (goodIn_of _ (by decide +kernel)) ggL_law_X6_count
set_option maxRecDepth 20000 in
theorem ggL_law_X7_count : GoodIn wsL_law wsX7_count := goodIn_r _ [562, 76, 147, 79, 86, 575, 576, 577, 578, 579, 580, 581, 582, 583, 584, 585, 586, 587, 588, 589, 590, 591, 592] (by decide +kernel) (by decide +kernel)
set_option maxRecDepth 20000 in
theorem gL_law_X7_count : GoodIn wsL_law (wsV RL 91 RX7 yX7_count wsX7_count) := goodIn_app (goodIn_of _ (by decide +kernel)) ggL_law_X7_count
set_option maxRecDepth 20000 in
theorem ggL_law_X6_trace : GoodIn wsL_law wsX6_trace := goodIn_r _ [566, 24, 571, 572, 573, 574] (by decide +kernel) (by decide +kernel)
set_option maxRecDepth 20000 in
theorem gL_law_X6_trace : GoodIn wsL_law (wsV RL 92 RX6 yX6_trace wsX6_trace) := goodIn_app (goodIn_of _ (by decide +kernel)) ggL_law_X6_trace
set_option maxRecDepth 20000 in
theorem ggL_law_X7_trace : GoodIn wsL_law wsX7_trace := goodIn_r _ [570, 202, 575, 576, 577, 578, 579, 580, 581, 582, 583, 584, 585, 586, 587, 588, 589, 590, 591, 592] (by decide +kernel) (by decide +kernel)
set_option maxRecDepth 20000 in
theorem gL_law_X7_trace : GoodIn wsL_law (wsV RL 96 RX7 yX7_trace wsX7_trace) := goodIn_app (goodIn_of _ (by decide +kernel)) ggL_law_X7_trace
theorem dL_law_0 : decode cL_law 0 = .ok (.new 7, 3) := by decide +kernel
theorem dL_law_3 : decode cL_law 3 = .ok (.dup, 1) := by decide +kernel
theorem dL_law_4 : decode cL_law 4 = .ok (.invokespecial 9, 3) := by decide +kernel
theorem dL_law_7 : decode cL_law 7 = .ok (.astore_n 1, 1) := by decide +kernel
theorem dL_law_8 : decode cL_law 8 = .ok (.new 10, 3) := by decide +kernel
theorem dL_law_11 : decode cL_law 11 = .ok (.dup, 1) := by decide +kernel
theorem dL_law_12 : decode cL_law 12 = .ok (.invokespecial 12, 3) := by decide +kernel
theorem dL_law_15 : decode cL_law 15 = .ok (.astore_n 2, 1) := by decide +kernel
theorem dL_law_16 : decode cL_law 16 = .ok (.iconst 0, 1) := by decide +kernel
theorem dL_law_17 : decode cL_law 17 = .ok (.istore_n 3, 1) := by decide +kernel
theorem dL_law_18 : decode cL_law 18 = .ok (.iload_n 3, 1) := by decide +kernel
theorem dL_law_19 : decode cL_law 19 = .ok (.aload_n 0, 1) := by decide +kernel
theorem dL_law_20 : decode cL_law 20 = .ok (.arraylength, 1) := by decide +kernel
theorem dL_law_21 : decode cL_law 21 = .ok (.bipush 6, 2) := by decide +kernel
theorem dL_law_23 : decode cL_law 23 = .ok (.isub, 1) := by decide +kernel
theorem dL_law_24 : decode cL_law 24 = .ok (.if_icmp .gt 655, 3) := by decide +kernel
theorem dL_law_27 : decode cL_law 27 = .ok (.aload_n 0, 1) := by decide +kernel
theorem dL_law_28 : decode cL_law 28 = .ok (.iload_n 3, 1) := by decide +kernel
theorem dL_law_29 : decode cL_law 29 = .ok (.iaload, 1) := by decide +kernel
theorem dL_law_30 : decode cL_law 30 = .ok (.bipush 31, 2) := by decide +kernel
theorem dL_law_32 : decode cL_law 32 = .ok (.iand, 1) := by decide +kernel
theorem dL_law_33 : decode cL_law 33 = .ok (.tableswitch 640 0 18 #[91, 154, 177, 200, 233, 256, 299, 312, 355, 389, 412, 445, 498, 521, 544, 557, 580, 603, 626], 91) := by decide +kernel
theorem dL_law_124 : decode cL_law 124 = .ok (.aload_n 1, 1) := by decide +kernel
theorem dL_law_125 : decode cL_law 125 = .ok (.aload_n 0, 1) := by decide +kernel
theorem dL_law_126 : decode cL_law 126 = .ok (.iload_n 3, 1) := by decide +kernel
theorem dL_law_127 : decode cL_law 127 = .ok (.iconst 1, 1) := by decide +kernel
theorem dL_law_128 : decode cL_law 128 = .ok (.iadd, 1) := by decide +kernel
theorem dL_law_129 : decode cL_law 129 = .ok (.iaload, 1) := by decide +kernel
theorem dL_law_130 : decode cL_law 130 = .ok (.aload_n 0, 1) := by decide +kernel
theorem dL_law_131 : decode cL_law 131 = .ok (.iload_n 3, 1) := by decide +kernel
theorem dL_law_132 : decode cL_law 132 = .ok (.iconst 2, 1) := by decide +kernel
theorem dL_law_133 : decode cL_law 133 = .ok (.iadd, 1) := by decide +kernel
theorem dL_law_134 : decode cL_law 134 = .ok (.iaload, 1) := by decide +kernel
theorem dL_law_135 : decode cL_law 135 = .ok (.aload_n 0, 1) := by decide +kernel
theorem dL_law_136 : decode cL_law 136 = .ok (.iload_n 3, 1) := by decide +kernel
theorem dL_law_137 : decode cL_law 137 = .ok (.iconst 3, 1) := by decide +kernel
theorem dL_law_138 : decode cL_law 138 = .ok (.iadd, 1) := by decide +kernel
theorem dL_law_139 : decode cL_law 139 = .ok (.iaload, 1) := by decide +kernel
theorem dL_law_140 : decode cL_law 140 = .ok (.aload_n 0, 1) := by decide +kernel
theorem dL_law_141 : decode cL_law 141 = .ok (.iload_n 3, 1) := by decide +kernel
theorem dL_law_142 : decode cL_law 142 = .ok (.iconst 4, 1) := by decide +kernel
theorem dL_law_143 : decode cL_law 143 = .ok (.iadd, 1) := by decide +kernel
theorem dL_law_144 : decode cL_law 144 = .ok (.iaload, 1) := by decide +kernel
theorem dL_law_145 : decode cL_law 145 = .ok (.aload_n 0, 1) := by decide +kernel
theorem dL_law_146 : decode cL_law 146 = .ok (.iload_n 3, 1) := by decide +kernel
theorem dL_law_147 : decode cL_law 147 = .ok (.iconst 5, 1) := by decide +kernel
theorem dL_law_148 : decode cL_law 148 = .ok (.iadd, 1) := by decide +kernel
theorem dL_law_149 : decode cL_law 149 = .ok (.iaload, 1) := by decide +kernel
theorem dL_law_150 : decode cL_law 150 = .ok (.invokevirtual 13, 3) := by decide +kernel
theorem dL_law_153 : decode cL_law 153 = .ok (.aload_n 2, 1) := by decide +kernel
theorem dL_law_154 : decode cL_law 154 = .ok (.aload_n 0, 1) := by decide +kernel
theorem dL_law_155 : decode cL_law 155 = .ok (.iload_n 3, 1) := by decide +kernel
theorem dL_law_156 : decode cL_law 156 = .ok (.iconst 1, 1) := by decide +kernel
theorem dL_law_157 : decode cL_law 157 = .ok (.iadd, 1) := by decide +kernel
theorem dL_law_158 : decode cL_law 158 = .ok (.iaload, 1) := by decide +kernel
theorem dL_law_159 : decode cL_law 159 = .ok (.aload_n 0, 1) := by decide +kernel
theorem dL_law_160 : decode cL_law 160 = .ok (.iload_n 3, 1) := by decide +kernel
theorem dL_law_161 : decode cL_law 161 = .ok (.iconst 2, 1) := by decide +kernel
theorem dL_law_162 : decode cL_law 162 = .ok (.iadd, 1) := by decide +kernel
theorem dL_law_163 : decode cL_law 163 = .ok (.iaload, 1) := by decide +kernel
theorem dL_law_164 : decode cL_law 164 = .ok (.aload_n 0, 1) := by decide +kernel
theorem dL_law_165 : decode cL_law 165 = .ok (.iload_n 3, 1) := by decide +kernel
theorem dL_law_166 : decode cL_law 166 = .ok (.iconst 3, 1) := by decide +kernel
theorem dL_law_167 : decode cL_law 167 = .ok (.iadd, 1) := by decide +kernel
theorem dL_law_168 : decode cL_law 168 = .ok (.iaload, 1) := by decide +kernel
theorem dL_law_169 : decode cL_law 169 = .ok (.aload_n 0, 1) := by decide +kernel
theorem dL_law_170 : decode cL_law 170 = .ok (.iload_n 3, 1) := by decide +kernel
theorem dL_law_171 : decode cL_law 171 = .ok (.iconst 4, 1) := by decide +kernel
theorem dL_law_172 : decode cL_law 172 = .ok (.iadd, 1) := by decide +kernel
theorem dL_law_173 : decode cL_law 173 = .ok (.iaload, 1) := by decide +kernel
theorem dL_law_174 : decode cL_law 174 = .ok (.aload_n 0, 1) := by decide +kernel
theorem dL_law_175 : decode cL_law 175 = .ok (.iload_n 3, 1) := by decide +kernel
theorem dL_law_176 : decode cL_law 176 = .ok (.iconst 5, 1) := by decide +kernel
theorem dL_law_177 : decode cL_law 177 = .ok (.iadd, 1) := by decide +kernel
theorem dL_law_178 : decode cL_law 178 = .ok (.iaload, 1) := by decide +kernel
theorem dL_law_179 : decode cL_law 179 = .ok (.invokevirtual 17, 3) := by decide +kernel
theorem dL_law_182 : decode cL_law 182 = .ok (.if_icmp .eq 491, 3) := by decide +kernel
theorem dL_law_185 : decode cL_law 185 = .ok (.iconst 0, 1) := by decide +kernel
theorem dL_law_186 : decode cL_law 186 = .ok (.ireturn, 1) := by decide +kernel
theorem dL_law_187 : decode cL_law 187 = .ok (.aload_n 1, 1) := by decide +kernel
theorem dL_law_188 : decode cL_law 188 = .ok (.aload_n 0, 1) := by decide +kernel
theorem dL_law_189 : decode cL_law 189 = .ok (.iload_n 3, 1) := by decide +kernel
theorem dL_law_190 : decode cL_law 190 = .ok (.iconst 1, 1) := by decide +kernel
theorem dL_law_191 : decode cL_law 191 = .ok (.iadd, 1) := by decide +kernel
theorem dL_law_192 : decode cL_law 192 = .ok (.iaload, 1) := by decide +kernel
theorem dL_law_193 : decode cL_law 193 = .ok (.invokevirtual 18, 3) := by decide +kernel
theorem dL_law_196 : decode cL_law 196 = .ok (.aload_n 2, 1) := by decide +kernel
theorem dL_law_197 : decode cL_law 197 = .ok (.aload_n 0, 1) := by decide +kernel
theorem dL_law_198 : decode cL_law 198 = .ok (.iload_n 3, 1) := by decide +kernel
theorem dL_law_199 : decode cL_law 199 = .ok (.iconst 1, 1) := by decide +kernel
theorem dL_law_200 : decode cL_law 200 = .ok (.iadd, 1) := by decide +kernel
theorem dL_law_201 : decode cL_law 201 = .ok (.iaload, 1) := by decide +kernel
theorem dL_law_202 : decode cL_law 202 = .ok (.invokevirtual 22, 3) := by decide +kernel
theorem dL_law_205 : decode cL_law 205 = .ok (.if_icmp .eq 468, 3) := by decide +kernel
theorem dL_law_208 : decode cL_law 208 = .ok (.iconst 0, 1) := by decide +kernel
theorem dL_law_209 : decode cL_law 209 = .ok (.ireturn, 1) := by decide +kernel
theorem dL_law_210 : decode cL_law 210 = .ok (.aload_n 1, 1) := by decide +kernel
theorem dL_law_211 : decode cL_law 211 = .ok (.aload_n 0, 1) := by decide +kernel
theorem dL_law_212 : decode cL_law 212 = .ok (.iload_n 3, 1) := by decide +kernel
theorem dL_law_213 : decode cL_law 213 = .ok (.iconst 1, 1) := by decide +kernel
theorem dL_law_214 : decode cL_law 214 = .ok (.iadd, 1) := by decide +kernel
theorem dL_law_215 : decode cL_law 215 = .ok (.iaload, 1) := by decide +kernel
theorem dL_law_216 : decode cL_law 216 = .ok (.invokevirtual 23, 3) := by decide +kernel
theorem dL_law_219 : decode cL_law 219 = .ok (.aload_n 2, 1) := by decide +kernel
theorem dL_law_220 : decode cL_law 220 = .ok (.aload_n 0, 1) := by decide +kernel
theorem dL_law_221 : decode cL_law 221 = .ok (.iload_n 3, 1) := by decide +kernel
theorem dL_law_222 : decode cL_law 222 = .ok (.iconst 1, 1) := by decide +kernel
theorem dL_law_223 : decode cL_law 223 = .ok (.iadd, 1) := by decide +kernel
theorem dL_law_224 : decode cL_law 224 = .ok (.iaload, 1) := by decide +kernel
theorem dL_law_225 : decode cL_law 225 = .ok (.invokevirtual 26, 3) := by decide +kernel
theorem dL_law_228 : decode cL_law 228 = .ok (.if_icmp .eq 445, 3) := by decide +kernel
theorem dL_law_231 : decode cL_law 231 = .ok (.iconst 0, 1) := by decide +kernel
theorem dL_law_232 : decode cL_law 232 = .ok (.ireturn, 1) := by decide +kernel
theorem dL_law_233 : decode cL_law 233 = .ok (.aload_n 1, 1) := by decide +kernel
theorem dL_law_234 : decode cL_law 234 = .ok (.aload_n 0, 1) := by decide +kernel
theorem dL_law_235 : decode cL_law 235 = .ok (.iload_n 3, 1) := by decide +kernel
theorem dL_law_236 : decode cL_law 236 = .ok (.iconst 1, 1) := by decide +kernel
theorem dL_law_237 : decode cL_law 237 = .ok (.iadd, 1) := by decide +kernel
theorem dL_law_238 : decode cL_law 238 = .ok (.iaload, 1) := by decide +kernel
theorem dL_law_239 : decode cL_law 239 = .ok (.aload_n 0, 1) := by decide +kernel
theorem dL_law_240 : decode cL_law 240 = .ok (.iload_n 3, 1) := by decide +kernel
theorem dL_law_241 : decode cL_law 241 = .ok (.iconst 2, 1) := by decide +kernel
theorem dL_law_242 : decode cL_law 242 = .ok (.iadd, 1) := by decide +kernel
theorem dL_law_243 : decode cL_law 243 = .ok (.iaload, 1) := by decide +kernel
theorem dL_law_244 : decode cL_law 244 = .ok (.invokevirtual 27, 3) := by decide +kernel
theorem dL_law_247 : decode cL_law 247 = .ok (.aload_n 2, 1) := by decide +kernel
theorem dL_law_248 : decode cL_law 248 = .ok (.aload_n 0, 1) := by decide +kernel
theorem dL_law_249 : decode cL_law 249 = .ok (.iload_n 3, 1) := by decide +kernel
theorem dL_law_250 : decode cL_law 250 = .ok (.iconst 1, 1) := by decide +kernel
theorem dL_law_251 : decode cL_law 251 = .ok (.iadd, 1) := by decide +kernel
theorem dL_law_252 : decode cL_law 252 = .ok (.iaload, 1) := by decide +kernel
theorem dL_law_253 : decode cL_law 253 = .ok (.aload_n 0, 1) := by decide +kernel
theorem dL_law_254 : decode cL_law 254 = .ok (.iload_n 3, 1) := by decide +kernel
theorem dL_law_255 : decode cL_law 255 = .ok (.iconst 2, 1) := by decide +kernel
theorem dL_law_256 : decode cL_law 256 = .ok (.iadd, 1) := by decide +kernel
theorem dL_law_257 : decode cL_law 257 = .ok (.iaload, 1) := by decide +kernel
theorem dL_law_258 : decode cL_law 258 = .ok (.invokevirtual 31, 3) := by decide +kernel
theorem dL_law_261 : decode cL_law 261 = .ok (.if_icmp .eq 412, 3) := by decide +kernel
theorem dL_law_264 : decode cL_law 264 = .ok (.iconst 0, 1) := by decide +kernel
theorem dL_law_265 : decode cL_law 265 = .ok (.ireturn, 1) := by decide +kernel
theorem dL_law_266 : decode cL_law 266 = .ok (.aload_n 1, 1) := by decide +kernel
theorem dL_law_267 : decode cL_law 267 = .ok (.aload_n 0, 1) := by decide +kernel
theorem dL_law_268 : decode cL_law 268 = .ok (.iload_n 3, 1) := by decide +kernel
theorem dL_law_269 : decode cL_law 269 = .ok (.iconst 1, 1) := by decide +kernel
theorem dL_law_270 : decode cL_law 270 = .ok (.iadd, 1) := by decide +kernel
theorem dL_law_271 : decode cL_law 271 = .ok (.iaload, 1) := by decide +kernel
theorem dL_law_272 : decode cL_law 272 = .ok (.invokevirtual 32, 3) := by decide +kernel
theorem dL_law_275 : decode cL_law 275 = .ok (.aload_n 2, 1) := by decide +kernel
theorem dL_law_276 : decode cL_law 276 = .ok (.aload_n 0, 1) := by decide +kernel
theorem dL_law_277 : decode cL_law 277 = .ok (.iload_n 3, 1) := by decide +kernel
theorem dL_law_278 : decode cL_law 278 = .ok (.iconst 1, 1) := by decide +kernel
theorem dL_law_279 : decode cL_law 279 = .ok (.iadd, 1) := by decide +kernel
theorem dL_law_280 : decode cL_law 280 = .ok (.iaload, 1) := by decide +kernel
theorem dL_law_281 : decode cL_law 281 = .ok (.invokevirtual 35, 3) := by decide +kernel
theorem dL_law_284 : decode cL_law 284 = .ok (.if_icmp .eq 389, 3) := by decide +kernel
theorem dL_law_287 : decode cL_law 287 = .ok (.iconst 0, 1) := by decide +kernel
theorem dL_law_288 : decode cL_law 288 = .ok (.ireturn, 1) := by decide +kernel
theorem dL_law_289 : decode cL_law 289 = .ok (.aload_n 1, 1) := by decide +kernel
theorem dL_law_290 : decode cL_law 290 = .ok (.aload_n 0, 1) := by decide +kernel
theorem dL_law_291 : decode cL_law 291 = .ok (.iload_n 3, 1) := by decide +kernel
theorem dL_law_292 : decode cL_law 292 = .ok (.iconst 1, 1) := by decide +kernel
theorem dL_law_293 : decode cL_law 293 = .ok (.iadd, 1) := by decide +kernel
theorem dL_law_294 : decode cL_law 294 = .ok (.iaload, 1) := by decide +kernel
theorem dL_law_295 : decode cL_law 295 = .ok (.aload_n 0, 1) := by decide +kernel
theorem dL_law_296 : decode cL_law 296 = .ok (.iload_n 3, 1) := by decide +kernel
theorem dL_law_297 : decode cL_law 297 = .ok (.iconst 2, 1) := by decide +kernel
theorem dL_law_298 : decode cL_law 298 = .ok (.iadd, 1) := by decide +kernel
theorem dL_law_299 : decode cL_law 299 = .ok (.iaload, 1) := by decide +kernel
theorem dL_law_300 : decode cL_law 300 = .ok (.aload_n 0, 1) := by decide +kernel
theorem dL_law_301 : decode cL_law 301 = .ok (.iload_n 3, 1) := by decide +kernel
theorem dL_law_302 : decode cL_law 302 = .ok (.iconst 3, 1) := by decide +kernel
theorem dL_law_303 : decode cL_law 303 = .ok (.iadd, 1) := by decide +kernel
theorem dL_law_304 : decode cL_law 304 = .ok (.iaload, 1) := by decide +kernel
theorem dL_law_305 : decode cL_law 305 = .ok (.invokevirtual 36, 3) := by decide +kernel
theorem dL_law_308 : decode cL_law 308 = .ok (.aload_n 2, 1) := by decide +kernel
theorem dL_law_309 : decode cL_law 309 = .ok (.aload_n 0, 1) := by decide +kernel
theorem dL_law_310 : decode cL_law 310 = .ok (.iload_n 3, 1) := by decide +kernel
theorem dL_law_311 : decode cL_law 311 = .ok (.iconst 1, 1) := by decide +kernel
theorem dL_law_312 : decode cL_law 312 = .ok (.iadd, 1) := by decide +kernel
theorem dL_law_313 : decode cL_law 313 = .ok (.iaload, 1) := by decide +kernel
theorem dL_law_314 : decode cL_law 314 = .ok (.aload_n 0, 1) := by decide +kernel
theorem dL_law_315 : decode cL_law 315 = .ok (.iload_n 3, 1) := by decide +kernel
theorem dL_law_316 : decode cL_law 316 = .ok (.iconst 2, 1) := by decide +kernel
theorem dL_law_317 : decode cL_law 317 = .ok (.iadd, 1) := by decide +kernel
theorem dL_law_318 : decode cL_law 318 = .ok (.iaload, 1) := by decide +kernel
theorem dL_law_319 : decode cL_law 319 = .ok (.aload_n 0, 1) := by decide +kernel
theorem dL_law_320 : decode cL_law 320 = .ok (.iload_n 3, 1) := by decide +kernel
theorem dL_law_321 : decode cL_law 321 = .ok (.iconst 3, 1) := by decide +kernel
theorem dL_law_322 : decode cL_law 322 = .ok (.iadd, 1) := by decide +kernel
theorem dL_law_323 : decode cL_law 323 = .ok (.iaload, 1) := by decide +kernel
theorem dL_law_324 : decode cL_law 324 = .ok (.invokevirtual 40, 3) := by decide +kernel
theorem dL_law_327 : decode cL_law 327 = .ok (.if_icmp .eq 346, 3) := by decide +kernel
theorem dL_law_330 : decode cL_law 330 = .ok (.iconst 0, 1) := by decide +kernel
theorem dL_law_331 : decode cL_law 331 = .ok (.ireturn, 1) := by decide +kernel
theorem dL_law_332 : decode cL_law 332 = .ok (.aload_n 1, 1) := by decide +kernel
theorem dL_law_333 : decode cL_law 333 = .ok (.invokevirtual 41, 3) := by decide +kernel
theorem dL_law_336 : decode cL_law 336 = .ok (.aload_n 2, 1) := by decide +kernel
theorem dL_law_337 : decode cL_law 337 = .ok (.invokevirtual 45, 3) := by decide +kernel
theorem dL_law_340 : decode cL_law 340 = .ok (.if_icmp .eq 333, 3) := by decide +kernel
theorem dL_law_343 : decode cL_law 343 = .ok (.iconst 0, 1) := by decide +kernel
theorem dL_law_344 : decode cL_law 344 = .ok (.ireturn, 1) := by decide +kernel
theorem dL_law_345 : decode cL_law 345 = .ok (.aload_n 1, 1) := by decide +kernel
theorem dL_law_346 : decode cL_law 346 = .ok (.aload_n 0, 1) := by decide +kernel
theorem dL_law_347 : decode cL_law 347 = .ok (.iload_n 3, 1) := by decide +kernel
theorem dL_law_348 : decode cL_law 348 = .ok (.iconst 1, 1) := by decide +kernel
theorem dL_law_349 : decode cL_law 349 = .ok (.iadd, 1) := by decide +kernel
theorem dL_law_350 : decode cL_law 350 = .ok (.iaload, 1) := by decide +kernel
theorem dL_law_351 : decode cL_law 351 = .ok (.aload_n 0, 1) := by decide +kernel
theorem dL_law_352 : decode cL_law 352 = .ok (.iload_n 3, 1) := by decide +kernel
theorem dL_law_353 : decode cL_law 353 = .ok (.iconst 2, 1) := by decide +kernel
theorem dL_law_354 : decode cL_law 354 = .ok (.iadd, 1) := by decide +kernel
theorem dL_law_355 : decode cL_law 355 = .ok (.iaload, 1) := by decide +kernel
theorem dL_law_356 : decode cL_law 356 = .ok (.aload_n 0, 1) := by decide +kernel
theorem dL_law_357 : decode cL_law 357 = .ok (.iload_n 3, 1) := by decide +kernel
theorem dL_law_358 : decode cL_law 358 = .ok (.iconst 3, 1) := by decide +kernel
theorem dL_law_359 : decode cL_law 359 = .ok (.iadd, 1) := by decide +kernel
theorem dL_law_360 : decode cL_law 360 = .ok (.iaload, 1) := by decide +kernel
theorem dL_law_361 : decode cL_law 361 = .ok (.invokevirtual 46, 3) := by decide +kernel
theorem dL_law_364 : decode cL_law 364 = .ok (.aload_n 2, 1) := by decide +kernel
theorem dL_law_365 : decode cL_law 365 = .ok (.aload_n 0, 1) := by decide +kernel
theorem dL_law_366 : decode cL_law 366 = .ok (.iload_n 3, 1) := by decide +kernel
theorem dL_law_367 : decode cL_law 367 = .ok (.iconst 1, 1) := by decide +kernel
theorem dL_law_368 : decode cL_law 368 = .ok (.iadd, 1) := by decide +kernel
theorem dL_law_369 : decode cL_law 369 = .ok (.iaload, 1) := by decide +kernel
theorem dL_law_370 : decode cL_law 370 = .ok (.aload_n 0, 1) := by decide +kernel
theorem dL_law_371 : decode cL_law 371 = .ok (.iload_n 3, 1) := by decide +kernel
theorem dL_law_372 : decode cL_law 372 = .ok (.iconst 2, 1) := by decide +kernel
theorem dL_law_373 : decode cL_law 373 = .ok (.iadd, 1) := by decide +kernel
theorem dL_law_374 : decode cL_law 374 = .ok (.iaload, 1) := by decide +kernel
theorem dL_law_375 : decode cL_law 375 = .ok (.aload_n 0, 1) := by decide +kernel
theorem dL_law_376 : decode cL_law 376 = .ok (.iload_n 3, 1) := by decide +kernel
theorem dL_law_377 : decode cL_law 377 = .ok (.iconst 3, 1) := by decide +kernel
theorem dL_law_378 : decode cL_law 378 = .ok (.iadd, 1) := by decide +kernel
theorem dL_law_379 : decode cL_law 379 = .ok (.iaload, 1) := by decide +kernel
theorem dL_law_380 : decode cL_law 380 = .ok (.invokevirtual 49, 3) := by decide +kernel
theorem dL_law_383 : decode cL_law 383 = .ok (.if_icmp .eq 290, 3) := by decide +kernel
theorem dL_law_386 : decode cL_law 386 = .ok (.iconst 0, 1) := by decide +kernel
theorem dL_law_387 : decode cL_law 387 = .ok (.ireturn, 1) := by decide +kernel
theorem dL_law_388 : decode cL_law 388 = .ok (.aload_n 1, 1) := by decide +kernel
theorem dL_law_389 : decode cL_law 389 = .ok (.aload_n 0, 1) := by decide +kernel
theorem dL_law_390 : decode cL_law 390 = .ok (.iload_n 3, 1) := by decide +kernel
theorem dL_law_391 : decode cL_law 391 = .ok (.iconst 1, 1) := by decide +kernel
theorem dL_law_392 : decode cL_law 392 = .ok (.iadd, 1) := by decide +kernel
theorem dL_law_393 : decode cL_law 393 = .ok (.iaload, 1) := by decide +kernel
theorem dL_law_394 : decode cL_law 394 = .ok (.aload_n 0, 1) := by decide +kernel
theorem dL_law_395 : decode cL_law 395 = .ok (.iload_n 3, 1) := by decide +kernel
theorem dL_law_396 : decode cL_law 396 = .ok (.iconst 2, 1) := by decide +kernel
theorem dL_law_397 : decode cL_law 397 = .ok (.iadd, 1) := by decide +kernel
theorem dL_law_398 : decode cL_law 398 = .ok (.iaload, 1) := by decide +kernel
theorem dL_law_399 : decode cL_law 399 = .ok (.invokevirtual 50, 3) := by decide +kernel
theorem dL_law_402 : decode cL_law 402 = .ok (.aload_n 2, 1) := by decide +kernel
theorem dL_law_403 : decode cL_law 403 = .ok (.aload_n 0, 1) := by decide +kernel
theorem dL_law_404 : decode cL_law 404 = .ok (.iload_n 3, 1) := by decide +kernel
theorem dL_law_405 : decode cL_law 405 = .ok (.iconst 1, 1) := by decide +kernel
theorem dL_law_406 : decode cL_law 406 = .ok (.iadd, 1) := by decide +kernel
theorem dL_law_407 : decode cL_law 407 = .ok (.iaload, 1) := by decide +kernel
theorem dL_law_408 : decode cL_law 408 = .ok (.aload_n 0, 1) := by decide +kernel
theorem dL_law_409 : decode cL_law 409 = .ok (.iload_n 3, 1) := by decide +kernel
theorem dL_law_410 : decode cL_law 410 = .ok (.iconst 2, 1) := by decide +kernel
theorem dL_law_411 : decode cL_law 411 = .ok (.iadd, 1) := by decide +kernel
theorem dL_law_412 : decode cL_law 412 = .ok (.iaload, 1) := by decide +kernel
theorem dL_law_413 : decode cL_law 413 = .ok (.invokevirtual 54, 3) := by decide +kernel
theorem dL_law_416 : decode cL_law 416 = .ok (.lcmp, 1) := by decide +kernel
theorem dL_law_417 : decode cL_law 417 = .ok (.ifCond .eq 256, 3) := by decide +kernel
theorem dL_law_420 : decode cL_law 420 = .ok (.iconst 0, 1) := by decide +kernel
theorem dL_law_421 : decode cL_law 421 = .ok (.ireturn, 1) := by decide +kernel
theorem dL_law_422 : decode cL_law 422 = .ok (.aload_n 1, 1) := by decide +kernel
theorem dL_law_423 : decode cL_law 423 = .ok (.aload_n 0, 1) := by decide +kernel
theorem dL_law_424 : decode cL_law 424 = .ok (.iload_n 3, 1) := by decide +kernel
theorem dL_law_425 : decode cL_law 425 = .ok (.iconst 1, 1) := by decide +kernel
theorem dL_law_426 : decode cL_law 426 = .ok (.iadd, 1) := by decide +kernel
theorem dL_law_427 : decode cL_law 427 = .ok (.iaload, 1) := by decide +kernel
theorem dL_law_428 : decode cL_law 428 = .ok (.invokevirtual 55, 3) := by decide +kernel
theorem dL_law_431 : decode cL_law 431 = .ok (.aload_n 2, 1) := by decide +kernel
theorem dL_law_432 : decode cL_law 432 = .ok (.aload_n 0, 1) := by decide +kernel
theorem dL_law_433 : decode cL_law 433 = .ok (.iload_n 3, 1) := by decide +kernel
theorem dL_law_434 : decode cL_law 434 = .ok (.iconst 1, 1) := by decide +kernel
theorem dL_law_435 : decode cL_law 435 = .ok (.iadd, 1) := by decide +kernel
theorem dL_law_436 : decode cL_law 436 = .ok (.iaload, 1) := by decide +kernel
theorem dL_law_437 : decode cL_law 437 = .ok (.invokevirtual 58, 3) := by decide +kernel
theorem dL_law_440 : decode cL_law 440 = .ok (.if_icmp .eq 233, 3) := by decide +kernel
theorem dL_law_443 : decode cL_law 443 = .ok (.iconst 0, 1) := by decide +kernel
theorem dL_law_444 : decode cL_law 444 = .ok (.ireturn, 1) := by decide +kernel
theorem dL_law_445 : decode cL_law 445 = .ok (.aload_n 1, 1) := by decide +kernel
theorem dL_law_446 : decode cL_law 446 = .ok (.aload_n 0, 1) := by decide +kernel
theorem dL_law_447 : decode cL_law 447 = .ok (.iload_n 3, 1) := by decide +kernel
theorem dL_law_448 : decode cL_law 448 = .ok (.iconst 1, 1) := by decide +kernel
theorem dL_law_449 : decode cL_law 449 = .ok (.iadd, 1) := by decide +kernel
theorem dL_law_450 : decode cL_law 450 = .ok (.iaload, 1) := by decide +kernel
theorem dL_law_451 : decode cL_law 451 = .ok (.aload_n 0, 1) := by decide +kernel
theorem dL_law_452 : decode cL_law 452 = .ok (.iload_n 3, 1) := by decide +kernel
theorem dL_law_453 : decode cL_law 453 = .ok (.iconst 2, 1) := by decide +kernel
theorem dL_law_454 : decode cL_law 454 = .ok (.iadd, 1) := by decide +kernel
theorem dL_law_455 : decode cL_law 455 = .ok (.iaload, 1) := by decide +kernel
theorem dL_law_456 : decode cL_law 456 = .ok (.invokevirtual 59, 3) := by decide +kernel
theorem dL_law_459 : decode cL_law 459 = .ok (.aload_n 2, 1) := by decide +kernel
theorem dL_law_460 : decode cL_law 460 = .ok (.aload_n 0, 1) := by decide +kernel
theorem dL_law_461 : decode cL_law 461 = .ok (.iload_n 3, 1) := by decide +kernel
theorem dL_law_462 : decode cL_law 462 = .ok (.iconst 1, 1) := by decide +kernel
theorem dL_law_463 : decode cL_law 463 = .ok (.iadd, 1) := by decide +kernel
theorem dL_law_464 : decode cL_law 464 = .ok (.iaload, 1) := by decide +kernel
theorem dL_law_465 : decode cL_law 465 = .ok (.aload_n 0, 1) := by decide +kernel
theorem dL_law_466 : decode cL_law 466 = .ok (.iload_n 3, 1) := by decide +kernel
theorem dL_law_467 : decode cL_law 467 = .ok (.iconst 2, 1) := by decide +kernel
theorem dL_law_468 : decode cL_law 468 = .ok (.iadd, 1) := by decide +kernel
theorem dL_law_469 : decode cL_law 469 = .ok (.iaload, 1) := by decide +kernel
theorem dL_law_470 : decode cL_law 470 = .ok (.invokevirtual 62, 3) := by decide +kernel
theorem dL_law_473 : decode cL_law 473 = .ok (.if_icmp .eq 200, 3) := by decide +kernel
theorem dL_law_476 : decode cL_law 476 = .ok (.iconst 0, 1) := by decide +kernel
theorem dL_law_477 : decode cL_law 477 = .ok (.ireturn, 1) := by decide +kernel
theorem dL_law_478 : decode cL_law 478 = .ok (.aload_n 1, 1) := by decide +kernel
theorem dL_law_479 : decode cL_law 479 = .ok (.aload_n 0, 1) := by decide +kernel
theorem dL_law_480 : decode cL_law 480 = .ok (.iload_n 3, 1) := by decide +kernel
theorem dL_law_481 : decode cL_law 481 = .ok (.iconst 1, 1) := by decide +kernel
theorem dL_law_482 : decode cL_law 482 = .ok (.iadd, 1) := by decide +kernel
theorem dL_law_483 : decode cL_law 483 = .ok (.iaload, 1) := by decide +kernel
theorem dL_law_484 : decode cL_law 484 = .ok (.aload_n 0, 1) := by decide +kernel
theorem dL_law_485 : decode cL_law 485 = .ok (.iload_n 3, 1) := by decide +kernel
theorem dL_law_486 : decode cL_law 486 = .ok (.iconst 2, 1) := by decide +kernel
theorem dL_law_487 : decode cL_law 487 = .ok (.iadd, 1) := by decide +kernel
theorem dL_law_488 : decode cL_law 488 = .ok (.iaload, 1) := by decide +kernel
theorem dL_law_489 : decode cL_law 489 = .ok (.aload_n 0, 1) := by decide +kernel
theorem dL_law_490 : decode cL_law 490 = .ok (.iload_n 3, 1) := by decide +kernel
theorem dL_law_491 : decode cL_law 491 = .ok (.iconst 3, 1) := by decide +kernel
theorem dL_law_492 : decode cL_law 492 = .ok (.iadd, 1) := by decide +kernel
theorem dL_law_493 : decode cL_law 493 = .ok (.iaload, 1) := by decide +kernel
theorem dL_law_494 : decode cL_law 494 = .ok (.aload_n 0, 1) := by decide +kernel
theorem dL_law_495 : decode cL_law 495 = .ok (.iload_n 3, 1) := by decide +kernel
theorem dL_law_496 : decode cL_law 496 = .ok (.iconst 4, 1) := by decide +kernel
theorem dL_law_497 : decode cL_law 497 = .ok (.iadd, 1) := by decide +kernel
theorem dL_law_498 : decode cL_law 498 = .ok (.iaload, 1) := by decide +kernel
theorem dL_law_499 : decode cL_law 499 = .ok (.invokevirtual 63, 3) := by decide +kernel
theorem dL_law_502 : decode cL_law 502 = .ok (.aload_n 2, 1) := by decide +kernel
theorem dL_law_503 : decode cL_law 503 = .ok (.aload_n 0, 1) := by decide +kernel
theorem dL_law_504 : decode cL_law 504 = .ok (.iload_n 3, 1) := by decide +kernel
theorem dL_law_505 : decode cL_law 505 = .ok (.iconst 1, 1) := by decide +kernel
theorem dL_law_506 : decode cL_law 506 = .ok (.iadd, 1) := by decide +kernel
theorem dL_law_507 : decode cL_law 507 = .ok (.iaload, 1) := by decide +kernel
theorem dL_law_508 : decode cL_law 508 = .ok (.aload_n 0, 1) := by decide +kernel
theorem dL_law_509 : decode cL_law 509 = .ok (.iload_n 3, 1) := by decide +kernel
theorem dL_law_510 : decode cL_law 510 = .ok (.iconst 2, 1) := by decide +kernel
theorem dL_law_511 : decode cL_law 511 = .ok (.iadd, 1) := by decide +kernel
theorem dL_law_512 : decode cL_law 512 = .ok (.iaload, 1) := by decide +kernel
theorem dL_law_513 : decode cL_law 513 = .ok (.aload_n 0, 1) := by decide +kernel
theorem dL_law_514 : decode cL_law 514 = .ok (.iload_n 3, 1) := by decide +kernel
theorem dL_law_515 : decode cL_law 515 = .ok (.iconst 3, 1) := by decide +kernel
theorem dL_law_516 : decode cL_law 516 = .ok (.iadd, 1) := by decide +kernel
theorem dL_law_517 : decode cL_law 517 = .ok (.iaload, 1) := by decide +kernel
theorem dL_law_518 : decode cL_law 518 = .ok (.aload_n 0, 1) := by decide +kernel
theorem dL_law_519 : decode cL_law 519 = .ok (.iload_n 3, 1) := by decide +kernel
theorem dL_law_520 : decode cL_law 520 = .ok (.iconst 4, 1) := by decide +kernel
theorem dL_law_521 : decode cL_law 521 = .ok (.iadd, 1) := by decide +kernel
theorem dL_law_522 : decode cL_law 522 = .ok (.iaload, 1) := by decide +kernel
theorem dL_law_523 : decode cL_law 523 = .ok (.invokevirtual 67, 3) := by decide +kernel
theorem dL_law_526 : decode cL_law 526 = .ok (.if_icmp .eq 147, 3) := by decide +kernel
theorem dL_law_529 : decode cL_law 529 = .ok (.iconst 0, 1) := by decide +kernel
theorem dL_law_530 : decode cL_law 530 = .ok (.ireturn, 1) := by decide +kernel
theorem dL_law_531 : decode cL_law 531 = .ok (.aload_n 1, 1) := by decide +kernel
theorem dL_law_532 : decode cL_law 532 = .ok (.aload_n 0, 1) := by decide +kernel
theorem dL_law_533 : decode cL_law 533 = .ok (.iload_n 3, 1) := by decide +kernel
theorem dL_law_534 : decode cL_law 534 = .ok (.iconst 1, 1) := by decide +kernel
theorem dL_law_535 : decode cL_law 535 = .ok (.iadd, 1) := by decide +kernel
theorem dL_law_536 : decode cL_law 536 = .ok (.iaload, 1) := by decide +kernel
theorem dL_law_537 : decode cL_law 537 = .ok (.invokevirtual 68, 3) := by decide +kernel
theorem dL_law_540 : decode cL_law 540 = .ok (.aload_n 2, 1) := by decide +kernel
theorem dL_law_541 : decode cL_law 541 = .ok (.aload_n 0, 1) := by decide +kernel
theorem dL_law_542 : decode cL_law 542 = .ok (.iload_n 3, 1) := by decide +kernel
theorem dL_law_543 : decode cL_law 543 = .ok (.iconst 1, 1) := by decide +kernel
theorem dL_law_544 : decode cL_law 544 = .ok (.iadd, 1) := by decide +kernel
theorem dL_law_545 : decode cL_law 545 = .ok (.iaload, 1) := by decide +kernel
theorem dL_law_546 : decode cL_law 546 = .ok (.invokevirtual 71, 3) := by decide +kernel
theorem dL_law_549 : decode cL_law 549 = .ok (.if_icmp .eq 124, 3) := by decide +kernel
theorem dL_law_552 : decode cL_law 552 = .ok (.iconst 0, 1) := by decide +kernel
theorem dL_law_553 : decode cL_law 553 = .ok (.ireturn, 1) := by decide +kernel
theorem dL_law_554 : decode cL_law 554 = .ok (.aload_n 1, 1) := by decide +kernel
theorem dL_law_555 : decode cL_law 555 = .ok (.aload_n 0, 1) := by decide +kernel
theorem dL_law_556 : decode cL_law 556 = .ok (.iload_n 3, 1) := by decide +kernel
theorem dL_law_557 : decode cL_law 557 = .ok (.iconst 1, 1) := by decide +kernel
theorem dL_law_558 : decode cL_law 558 = .ok (.iadd, 1) := by decide +kernel
theorem dL_law_559 : decode cL_law 559 = .ok (.iaload, 1) := by decide +kernel
theorem dL_law_560 : decode cL_law 560 = .ok (.invokevirtual 72, 3) := by decide +kernel
theorem dL_law_563 : decode cL_law 563 = .ok (.aload_n 2, 1) := by decide +kernel
theorem dL_law_564 : decode cL_law 564 = .ok (.aload_n 0, 1) := by decide +kernel
theorem dL_law_565 : decode cL_law 565 = .ok (.iload_n 3, 1) := by decide +kernel
theorem dL_law_566 : decode cL_law 566 = .ok (.iconst 1, 1) := by decide +kernel
theorem dL_law_567 : decode cL_law 567 = .ok (.iadd, 1) := by decide +kernel
theorem dL_law_568 : decode cL_law 568 = .ok (.iaload, 1) := by decide +kernel
theorem dL_law_569 : decode cL_law 569 = .ok (.invokevirtual 75, 3) := by decide +kernel
theorem dL_law_572 : decode cL_law 572 = .ok (.if_icmp .eq 101, 3) := by decide +kernel
theorem dL_law_575 : decode cL_law 575 = .ok (.iconst 0, 1) := by decide +kernel
theorem dL_law_576 : decode cL_law 576 = .ok (.ireturn, 1) := by decide +kernel
theorem dL_law_577 : decode cL_law 577 = .ok (.aload_n 1, 1) := by decide +kernel
theorem dL_law_578 : decode cL_law 578 = .ok (.invokevirtual 76, 3) := by decide +kernel
end
section
theorem dL_law_581 : decode cL_law 581 = .ok (.aload_n 2, 1) := by decide +kernel
theorem dL_law_582 : decode cL_law 582 = .ok (.invokevirtual 79, 3) := by decide +kernel
theorem dL_law_585 : decode cL_law 585 = .ok (.if_icmp .eq 88, 3) := by decide +kernel
theorem dL_law_588 : decode cL_law 588 = .ok (.iconst 0, 1) := by decide +kernel
theorem dL_law_589 : decode cL_law 589 = .ok (.ireturn, 1) := by decide +kernel
theorem dL_law_590 : decode cL_law 590 = .ok (.aload_n 1, 1) := by decide +kernel
theorem dL_law_591 : decode cL_law 591 = .ok (.aload_n 0, 1) := by decide +kernel
theorem dL_law_592 : decode cL_law 592 = .ok (.iload_n 3, 1) := by decide +kernel
theorem dL_law_593 : decode cL_law 593 = .ok (.iconst 1, 1) := by decide +kernel
theorem dL_law_594 : decode cL_law 594 = .ok (.iadd, 1) := by decide +kernel
theorem dL_law_595 : decode cL_law 595 = .ok (.iaload, 1) := by decide +kernel
theorem dL_law_596 : decode cL_law 596 = .ok (.invokevirtual 80, 3) := by decide +kernel
theorem dL_law_599 : decode cL_law 599 = .ok (.aload_n 2, 1) := by decide +kernel
theorem dL_law_600 : decode cL_law 600 = .ok (.aload_n 0, 1) := by decide +kernel
theorem dL_law_601 : decode cL_law 601 = .ok (.iload_n 3, 1) := by decide +kernel
theorem dL_law_602 : decode cL_law 602 = .ok (.iconst 1, 1) := by decide +kernel
theorem dL_law_603 : decode cL_law 603 = .ok (.iadd, 1) := by decide +kernel
theorem dL_law_604 : decode cL_law 604 = .ok (.iaload, 1) := by decide +kernel
theorem dL_law_605 : decode cL_law 605 = .ok (.invokevirtual 83, 3) := by decide +kernel
theorem dL_law_608 : decode cL_law 608 = .ok (.if_icmp .eq 65, 3) := by decide +kernel
theorem dL_law_611 : decode cL_law 611 = .ok (.iconst 0, 1) := by decide +kernel
theorem dL_law_612 : decode cL_law 612 = .ok (.ireturn, 1) := by decide +kernel
theorem dL_law_613 : decode cL_law 613 = .ok (.aload_n 1, 1) := by decide +kernel
theorem dL_law_614 : decode cL_law 614 = .ok (.aload_n 0, 1) := by decide +kernel
theorem dL_law_615 : decode cL_law 615 = .ok (.iload_n 3, 1) := by decide +kernel
theorem dL_law_616 : decode cL_law 616 = .ok (.iconst 1, 1) := by decide +kernel
theorem dL_law_617 : decode cL_law 617 = .ok (.iadd, 1) := by decide +kernel
theorem dL_law_618 : decode cL_law 618 = .ok (.iaload, 1) := by decide +kernel
theorem dL_law_619 : decode cL_law 619 = .ok (.invokevirtual 84, 3) := by decide +kernel
theorem dL_law_622 : decode cL_law 622 = .ok (.aload_n 2, 1) := by decide +kernel
theorem dL_law_623 : decode cL_law 623 = .ok (.aload_n 0, 1) := by decide +kernel
theorem dL_law_624 : decode cL_law 624 = .ok (.iload_n 3, 1) := by decide +kernel
theorem dL_law_625 : decode cL_law 625 = .ok (.iconst 1, 1) := by decide +kernel
theorem dL_law_626 : decode cL_law 626 = .ok (.iadd, 1) := by decide +kernel
theorem dL_law_627 : decode cL_law 627 = .ok (.iaload, 1) := by decide +kernel
theorem dL_law_628 : decode cL_law 628 = .ok (.invokevirtual 87, 3) := by decide +kernel
theorem dL_law_631 : decode cL_law 631 = .ok (.if_icmp .eq 42, 3) := by decide +kernel
theorem dL_law_634 : decode cL_law 634 = .ok (.iconst 0, 1) := by decide +kernel
theorem dL_law_635 : decode cL_law 635 = .ok (.ireturn, 1) := by decide +kernel
theorem dL_law_636 : decode cL_law 636 = .ok (.aload_n 1, 1) := by decide +kernel
theorem dL_law_637 : decode cL_law 637 = .ok (.aload_n 0, 1) := by decide +kernel
theorem dL_law_638 : decode cL_law 638 = .ok (.iload_n 3, 1) := by decide +kernel
theorem dL_law_639 : decode cL_law 639 = .ok (.iconst 1, 1) := by decide +kernel
theorem dL_law_640 : decode cL_law 640 = .ok (.iadd, 1) := by decide +kernel
theorem dL_law_641 : decode cL_law 641 = .ok (.iaload, 1) := by decide +kernel
theorem dL_law_642 : decode cL_law 642 = .ok (.invokevirtual 88, 3) := by decide +kernel
theorem dL_law_645 : decode cL_law 645 = .ok (.aload_n 2, 1) := by decide +kernel
theorem dL_law_646 : decode cL_law 646 = .ok (.aload_n 0, 1) := by decide +kernel
theorem dL_law_647 : decode cL_law 647 = .ok (.iload_n 3, 1) := by decide +kernel
theorem dL_law_648 : decode cL_law 648 = .ok (.iconst 1, 1) := by decide +kernel
theorem dL_law_649 : decode cL_law 649 = .ok (.iadd, 1) := by decide +kernel
theorem dL_law_650 : decode cL_law 650 = .ok (.iaload, 1) := by decide +kernel
theorem dL_law_651 : decode cL_law 651 = .ok (.invokevirtual 91, 3) := by decide +kernel
theorem dL_law_654 : decode cL_law 654 = .ok (.if_icmp .eq 19, 3) := by decide +kernel
theorem dL_law_657 : decode cL_law 657 = .ok (.iconst 0, 1) := by decide +kernel
theorem dL_law_658 : decode cL_law 658 = .ok (.ireturn, 1) := by decide +kernel
theorem dL_law_659 : decode cL_law 659 = .ok (.aload_n 1, 1) := by decide +kernel
theorem dL_law_660 : decode cL_law 660 = .ok (.invokevirtual 92, 3) := by decide +kernel
theorem dL_law_663 : decode cL_law 663 = .ok (.aload_n 2, 1) := by decide +kernel
theorem dL_law_664 : decode cL_law 664 = .ok (.invokevirtual 96, 3) := by decide +kernel
theorem dL_law_667 : decode cL_law 667 = .ok (.lcmp, 1) := by decide +kernel
theorem dL_law_668 : decode cL_law 668 = .ok (.ifCond .eq 5, 3) := by decide +kernel
theorem dL_law_671 : decode cL_law 671 = .ok (.iconst 0, 1) := by decide +kernel
theorem dL_law_672 : decode cL_law 672 = .ok (.ireturn, 1) := by decide +kernel
theorem dL_law_673 : decode cL_law 673 = .ok (.iinc 3 6, 3) := by decide +kernel
theorem dL_law_676 : decode cL_law 676 = .ok (.goto (-658), 3) := by decide +kernel
theorem dL_law_679 : decode cL_law 679 = .ok (.iconst 1, 1) := by decide +kernel
theorem dL_law_680 : decode cL_law 680 = .ok (.ireturn, 1) := by decide +kernel
abbrev vwCl : List vw_C := [(RX0, TX0, 4), (RX1, TX1, 2), (RX2, TX2, 2), (RX3, TX3, 3), (RX4, TX4, 3), (RX5, TX5, 6), (RX6, TX6, 4), (RX7, TX7, 18)]
end
