/-! ===== the class's list: small calls ===== -/
section C9
variable {req ocn : Int32} {t : Nat}
theorem thingAt_c {c j : Nat} (hc : c < 256) (hj : j < 5) {K : Int32 → Prop} (hK : K (nI (tA c j))) : g_X5_thingAt (nI c) (nI j) K := by
  unfold g_X5_thingAt
  rw [f_ta c hc j hj]
  exact hK
theorem exchanged_c {c j : Nat} (hc : c < 256) (hj : j < 3) {K : Int32 → Prop} (hK : K (nI (exc c j))) : g_X5_exchanged (nI c) (nI j) K := by
  unfold g_X5_exchanged
  refine thingAt_c hc (by omega) ?_
  rw [nI_1]
  refine thingAt_c hc (by omega) ?_
  rw [(f_xc c hc j hj).1]
  exact hK
theorem placeOf_c (h1 : 1 ≤ t) (h4 : t ≤ 4) {c x : Nat} (hc : c < 256) (hx : x < 4) {K : Int32 → Prop} (hK : K (nI (pl t c x))) : g_X5_placeOf (nI t) req ocn (nI c) (nI x) K := by
  unfold g_X5_placeOf
  refine ⟨fun n v => ∃ j, j ≤ t - 1 ∧ n = t - j ∧ v = nI j ∧ plA c x (t - 1 - j) j = pl t c x, ⟨t, 0, by omega, rfl, rfl, rfl⟩, ?_, ?_⟩
  · rintro v ⟨j, h, h', -⟩
    omega
  · rintro n v ⟨j, hj, hn, rfl, hp⟩
    rw [show nI t - 1 = nI (t - 1) from pk_sub (b := 1) h1]
    refine ⟨fun z => ?_, fun z => ?_⟩
    · have z := (nI_leI (by omega) (by omega)).mp z
      have : j = t - 1 := by omega
      subst this
      rw [Nat.sub_self] at hp
      rw [show t - 1 = pl t c x from hp]
      exact hK
    · have z : ¬ t - 1 ≤ j := fun y => z ((nI_leI (by omega) (by omega)).mpr y)
      have hb := tA_b c j
      rw [show t - 1 - j = (t - 1 - (j + 1)) + 1 by omega] at hp
      refine thingAt_c hc (by omega) ⟨fun y => ?_, fun y => ⟨j + 1, by omega, by omega, nI_1 _, ?_⟩⟩
      · have y := (nI_eq (by omega) (by omega)).mp y
        have : j = pl t c x := by
          rw [← hp]
          show j = (if tA c j = x then j else _)
          rw [if_pos y]
        rw [this]
        exact hK
      · have y : ¬ tA c j = x := fun q => y (by rw [q])
        rw [← hp]
        show _ = (if tA c j = x then j else _)
        rw [if_neg y]
theorem firstOrder_c (h4 : t ≤ 4) {K : Int32 → Prop} (hK : K (nI (fo t))) : g_X5_firstOrder (nI t) req ocn K := by
  unfold g_X5_firstOrder
  refine ⟨fun n v i => ∃ j, j ≤ t ∧ n = t - j + 1 ∧ v = nI (fo j) ∧ i = nI j, ⟨t + 1, 0, by omega, by omega, rfl, rfl⟩, ?_, ?_⟩
  · rintro v i ⟨j, h, h', -⟩
    omega
  · rintro n v i ⟨j, hj, hn, rfl, rfl⟩
    refine ⟨fun z => ?_, fun z => ?_⟩
    · have z := (nI_leI (by omega) (by omega)).mp z
      have : j = t := by omega
      subst this
      exact hK
    · have z : ¬ t ≤ j := fun y => z ((nI_leI (by omega) (by omega)).mpr y)
      exact ⟨j + 1, by omega, by omega, f_fi j (by omega), nI_1 _⟩
theorem msk_b (c : Nat) : ∀ j, msk c j < 16 := by
  intro j
  induction j with
  | zero => show 0 < 16; omega
  | succ j ih => exact (f_mk (msk c j) ih (tA c j) (tA_b c j)).2
theorem isOrder_c (h1 : 1 ≤ t) (h4 : t ≤ 4) {c : Nat} (hc : c < 256) {K : Int32 → Prop} (hK1 : isO t c = true → K 1) (hK0 : isO t c = false → K 0) : g_X5_isOrder (nI t) req ocn (nI c) K := by
  unfold g_X5_isOrder
  refine ⟨fun n v i => ∃ j, j ≤ t ∧ n = t - j + 1 ∧ v = nI (msk c j) ∧ i = nI j, ⟨t + 1, 0, by omega, by omega, rfl, rfl⟩, ?_, ?_⟩
  · rintro v i ⟨j, h, h', -⟩
    omega
  · rintro n v i ⟨j, hj, hn, rfl, rfl⟩
    have hb := msk_b c j
    refine ⟨fun z => ?_, fun z => ?_⟩
    · have z := (nI_leI (by omega) (by omega)).mp z
      have : j = t := by omega
      subst this
      have h2 : (2 : Nat) ^ j ≤ 2 ^ 4 := Nat.pow_le_pow_right (by omega) h4
      have h3 : c / 4 ^ j ≤ c := Nat.div_le_self _ _
      rw [f_pw j (by omega), f_sh c hc j (by omega)]
      refine ⟨fun y => ?_, fun y => ⟨fun q => ?_, fun q => ?_⟩⟩
      · refine hK0 ?_
        have y : ¬ msk c j = 2 ^ j - 1 := fun q => y (by rw [q])
        unfold isO
        rw [show Nat.beq (msk c j) (2 ^ j - 1) = false from Bool.eq_false_iff.mpr (fun q => y (Nat.eq_of_beq_eq_true q))]
        rfl
      · refine hK0 ?_
        have q : ¬ c / 4 ^ j = 0 := fun w => q (by rw [w]; rfl)
        unfold isO
        rw [show Nat.beq (c / 4 ^ j) 0 = false from Bool.eq_false_iff.mpr (fun w => q (Nat.eq_of_beq_eq_true w)), Bool.and_false]
      · refine hK1 ?_
        have y := (nI_eq (by omega) (by omega)).mp y
        have q := (nI_eq (b := 0) (by omega) (by omega)).mp q
        unfold isO
        rw [y, q, Nat.beq_refl, Nat.beq_refl]
        rfl
    · have z : ¬ t ≤ j := fun y => z ((nI_leI (by omega) (by omega)).mpr y)
      refine thingAt_c hc (by omega) ⟨j + 1, by omega, by omega, ?_, nI_1 _⟩
      exact (f_mk (msk c j) hb (tA c j) (tA_b c j)).1
theorem pre_app (t c : Nat) : ∀ k, ∃ s, pre t (c + k) = pre t c ++ s := by
  intro k
  induction k with
  | zero => exact ⟨[], by rw [List.append_nil]; rfl⟩
  | succ k ih =>
    obtain ⟨s, hs⟩ := ih
    show ∃ s, (if isO t (c + k) then pre t (c + k) ++ [c + k] else pre t (c + k)) = pre t c ++ s
    split
    · exact ⟨s ++ [c + k], by rw [hs, List.append_assoc]⟩
    · exact ⟨s, hs⟩
/-- the table of orders, as the class holds it -/
def OR (t : Nat) (ocn : Int32) (osF : Nat → Int32) : Prop := ocn = nI (oN t) ∧ ∀ i, i < oN t → osF i = nI (oC t i)
theorem findOrders_c (h1 : 1 ≤ t) (h4 : t ≤ 4) {ocn : Int32} {osF : Nat → Int32} {K : Int32 → (Nat → Int32) → Prop} (hK : ∀ n F, OR t n F → K n F) : g_X5_findOrders (nI t) req ocn osF K := by
  have hn := f_nn h1 h4
  have hl := f_li h1 h4
  have fin : ∀ c, c ≤ 256 → 24 ≤ (pre t c).length ∨ c = 256 → ∀ F : Nat → Int32, (∀ i v, (pre t c)[i]? = some v → F i = nI v) → K (nI (pre t c).length) F := by
    intro c hc hq F hF
    have he : pre t c = oT t := by
      rcases hq with hq | hq
      · obtain ⟨s, hs⟩ := pre_app t c (256 - c)
        rw [show c + (256 - c) = 256 by omega, hl] at hs
        have hlen : (oT t).length = (pre t c).length + s.length := by rw [hs, List.length_append]
        have h24 : (oT t).length ≤ 24 := hn.1
        have : s = [] := List.length_eq_zero_iff.mp (by omega)
        rw [hs, this, List.append_nil]
      · rw [hq, hl]
    refine hK _ _ ⟨by rw [he]; rfl, fun i hi => ?_⟩
    have hi : i < (oT t).length := hi
    have e : (oT t)[i]? = some ((oT t)[i]) := List.getElem?_eq_getElem hi
    rw [hF i ((oT t)[i]) (by rw [he]; exact e)]
    unfold oC
    rw [e]
    rfl
  have hsm : ∀ c, (pre t c).length ≤ c := by
    intro c
    induction c with
    | zero => exact Nat.le_refl 0
    | succ c ih =>
      show (if isO t c then pre t c ++ [c] else pre t c).length ≤ c + 1
      split
      · rw [List.length_append]
        show (pre t c).length + 1 ≤ c + 1
        omega
      · omega
  unfold g_X5_findOrders
  refine ⟨fun n v m F => ∃ c, c ≤ 256 ∧ n = 257 - c ∧ v = nI c ∧ m = nI (pre t c).length ∧ ∀ i v, (pre t c)[i]? = some v → F i = nI v, ⟨257, 0, by omega, rfl, rfl, rfl, fun i v h => by simp [pre] at h⟩, ?_, ?_⟩
  · rintro v m F ⟨c, h, h', -⟩
    omega
  · rintro n v m F ⟨c, hc, hn2, rfl, rfl, hF⟩
    have hs := hsm c
    refine ⟨fun z => ?_, fun z => ⟨fun y => ?_, fun y => ?_⟩⟩
    · have z := (nI_leI (a := 256) (by omega) (by omega)).mp z
      exact fin c hc (Or.inr (by omega)) F hF
    · have y := (nI_leI (a := 24) (by omega) (by omega)).mp y
      exact fin c hc (Or.inl y) F hF
    · have z : ¬ 256 ≤ c := fun q => z ((nI_leI (a := 256) (by omega) (by omega)).mpr q)
      have y : ¬ 24 ≤ (pre t c).length := fun q => y ((nI_leI (a := 24) (by omega) (by omega)).mpr q)
      refine isOrder_c h1 h4 (by omega) (fun q => ?_) (fun q => ?_)
      · have e : pre t (c + 1) = pre t c ++ [c] := by
          show (if isO t c then pre t c ++ [c] else pre t c) = _
          rw [if_pos q]
        refine ⟨fun m F => m = nI (pre t (c + 1)).length ∧ ∀ i v, (pre t (c + 1))[i]? = some v → F i = nI v, ?_, fun w => absurd w one0, fun _ => ⟨vp_in_nI (by omega) (by omega), ?_, fun i v hv => ?_⟩⟩
        · rintro m F ⟨rfl, hF⟩
          exact ⟨c + 1, by omega, by omega, nI_1 _, rfl, hF⟩
        · rw [e, nI_1, List.length_append]
          rfl
        · rw [nI_clamp (by omega)]
          rw [e] at hv
          by_cases w : i < (pre t c).length
          · rw [List.getElem?_append_left w] at hv
            rw [pk_un (by omega)]
            exact hF i v hv
          · rw [List.getElem?_append_right (by omega)] at hv
            have hz : i - (pre t c).length < 1 := (List.getElem?_eq_some_iff.mp hv).1
            have : i = (pre t c).length := by omega
            subst this
            rw [Nat.sub_self] at hv
            cases hv
            exact pk_us
      · have e : pre t (c + 1) = pre t c := by
          show (if isO t c then pre t c ++ [c] else pre t c) = _
          rw [if_neg (by rw [q]; decide)]
        refine ⟨fun m F => m = nI (pre t (c + 1)).length ∧ ∀ i v, (pre t (c + 1))[i]? = some v → F i = nI v, ?_, fun _ => ?_, fun w => absurd rfl w⟩
        · rintro m F ⟨rfl, hF⟩
          exact ⟨c + 1, by omega, by omega, nI_1 _, rfl, hF⟩
        · rw [e]
          exact ⟨rfl, hF⟩
end C9
