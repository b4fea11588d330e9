/-! ===== the reference's answers of the same ===== -/
section M4
variable {mkd mrt mri mca mpr mth mrq mos : Int32} {mtr : Int64} {k dr ri ca pr E : Nat}
theorem cost_m (hE : E ≤ 40) (ho : OF k dr ri ca pr) (hm : MO k dr ri ca pr mkd mrt mri mca mpr) {p1 p2 : Int32} {K : Int32 → Prop} (hK : K (cosS (RS k dr ri ca) pr E p1 p2)) : g_X7_cost mkd mrt mri mca mpr (nI E) mth mrq mtr mos p1 p2 K := by
  unfold cosS at hK
  unfold g_X7_cost
  refine isPlan_m (fun h1 => yes1 (isEnd_m (fun h2 => yes1 ?_) (fun h2 => no0 ?_))) (fun h1 => no0 ?_)
  · rw [if_pos ⟨h1, h2⟩] at hK
    obtain ⟨a, a1, a2, rfl⟩ := vPl_of hE h1
    obtain ⟨e, e1, e2, rfl⟩ := vEn_of hE h2
    rw [nI_clamp (by omega), nI_clamp (by omega)] at hK
    exact costOf_m ho hm a1 (by omega) (by omega) hK
  · rw [if_neg (fun z => h2 z.2)] at hK; exact hK
  · rw [if_neg (fun z => h1 z.1)] at hK; exact hK
theorem known_m (hE : E ≤ 40) (ho : OF k dr ri ca pr) (hm : MO k dr ri ca pr mkd mrt mri mca mpr) {p1 : Int32} {K : Int32 → Prop} (hK : K (knwS (RS k dr ri ca) pr E p1)) : g_X7_known mkd mrt mri mca mpr (nI E) mth mrq mtr mos p1 K := by
  unfold knwS at hK
  unfold g_X7_known
  refine isEnd_m (fun h2 => yes1 ?_) (fun h2 => no0 ?_)
  · rw [if_pos h2] at hK
    obtain ⟨e, e1, e2, rfl⟩ := vEn_of hE h2
    rw [nI_clamp (by omega)] at hK
    exact knownBy_m ho hm (by omega) hK
  · rw [if_neg h2] at hK; exact hK
theorem sure_m (hE1 : 1 ≤ E) (hE : E ≤ 40) (ho : OF k dr ri ca pr) (hm : MO k dr ri ca pr mkd mrt mri mca mpr) {K : Int32 → Prop} (hK : K (nI (sP (RS k dr ri ca) pr E))) : g_X7_sure mkd mrt mri mca mpr (nI E) mth mrq mtr mos K := by
  unfold g_X7_sure
  exact surePlan_m hE1 hE ho hm hK
theorem ratio_m (hE1 : 1 ≤ E) (hE : E ≤ 40) (ho : OF k dr ri ca pr) (hm : MO k dr ri ca pr mkd mrt mri mca mpr) {p1 p2 p3 : Int32} {K : Int32 → Prop} (hK : K (ratS (RS k dr ri ca) pr E p1 p2 p3)) : g_X7_ratio mkd mrt mri mca mpr (nI E) mth mrq mtr mos p1 p2 p3 K := by
  have hb := ho.rb
  unfold ratS at hK
  unfold g_X7_ratio
  refine isPlan_m (fun h1 => yes1 ?_) (fun h1 => no0 ?_)
  · refine ⟨p2 = 0 ∨ vEn E p2, fun h2 => in_m (fun h3 => yes1' ?_) (fun h3 => no0' ?_), fun z => Or.inl z, fun z => isEnd_m (fun h2 => yes1 (Or.inr h2)) (fun h2 => no0 ?_)⟩
    · rw [if_pos ⟨h1, h2, h3⟩] at hK
      obtain ⟨a, a1, a2, rfl⟩ := vPl_of hE h1
      rw [nI_clamp (by omega)] at hK
      refine ⟨fun v => ∃ e, 1 ≤ e ∧ e ≤ 40 ∧ v = nI e ∧ K (nI (rat (RS k dr ri ca) pr a e p3)), ?_, fun z => ?_, fun z => ?_⟩
      · rintro v ⟨e, e1, e2, rfl, hK⟩
        have b1 := cst_b hb (p := a) (by omega) e1 e2
        have b2 := knw_b hb e1 e2
        refine costOf_m ho hm a1 (by omega) e2 (knownBy_m ho hm e2 ?_)
        rw [nI_l (by omega), nI_l (by omega)]
        refine common_m (by omega) (by omega) ?_
        have hg : 0 < Nat.gcd (cst (RS k dr ri ca) pr a e) (knw (RS k dr ri ca) pr e) := Nat.gcd_pos_of_pos_right _ (by omega)
        have hg2 : Nat.gcd (cst (RS k dr ri ca) pr a e) (knw (RS k dr ri ca) pr e) ≤ knw (RS k dr ri ca) pr e := Nat.gcd_le_right _ (by omega)
        unfold rat lf at hK
        rw [lN_i, pk_div (by omega) hg (by omega), pk_div (by omega) hg (by omega)]
        refine ⟨fun z => ⟨nI_ne0 hg (by omega), ?_⟩, fun z => ⟨nI_ne0 hg (by omega), ?_⟩⟩
        · rw [if_neg z] at hK; exact hK
        · rw [if_pos z] at hK; exact hK
      · rcases h2 with h2 | h2
        · exact absurd h2 z
        · rw [if_neg z] at hK
          obtain ⟨e, e1, e2, rfl⟩ := vEn_of hE h2
          rw [nI_clamp (by omega)] at hK
          exact ⟨e, e1, by omega, rfl, hK⟩
      · rw [if_pos z] at hK
        have hw := wE_b (rs := RS k dr ri ca) (pr := pr) (E := E) (p := a) hE1
        exact worstEnd_m hE1 hE ho hm a1 (by omega) ⟨_, hw.1, by omega, rfl, hK⟩
    · rw [if_neg (fun z => h3 z.2.2)] at hK; exact hK
    · rw [if_neg (fun y => y.2.1.elim z h2)] at hK; exact hK
  · rw [if_neg (fun z => h1 z.1)] at hK; exact hK
theorem planBy_m (hE1 : 1 ≤ E) (hE : E ≤ 40) (ho : OF k dr ri ca pr) (hm : MO k dr ri ca pr mkd mrt mri mca mpr) {g t : Nat} (g1 : 1 ≤ g) (g2 : g ≤ E) (t1 : 1 ≤ t) (t2 : t ≤ 9) {K : Int32 → Prop} (hK : K (nI (plG (RS k dr ri ca) pr E g t))) : g_X7_planBy mkd mrt mri mca mpr (nI E) mth mrq mtr mos (nI g) (nI t) K := by
  have hs := sP_b (rs := RS k dr ri ca) (pr := pr) hE1
  obtain ⟨q1, q2, q3, q4, q5⟩ := ho.rb
  have := q1 g (by omega)
  unfold g_X7_planBy
  refine surePlan_m hE1 hE ho hm (rentsTo_m ho hm (by omega) ?_)
  unfold plG at hK
  have h4 : sP (RS k dr ri ca) pr E * t ≤ (E + 1) * 9 := Nat.mul_le_mul hs.2 t2
  have hd : sP (RS k dr ri ca) pr E * 10 / t ≤ sP (RS k dr ri ca) pr E * 10 := Nat.div_le_self _ _
  rw [hm.2.2.2.2, show (10 : Int32) = nI 10 from rfl, show (9 : Int32) = nI 9 from rfl, pk_mul, pk_mul, nI_add, pk_div (by omega) (by omega) (by omega), pk_div (by omega) (by omega) (by omega), nI_1]
  refine ⟨fun c => ⟨nI_ne0 (by omega) (by omega), ?_⟩, fun c => ⟨nI_ne0 (by omega) (by omega), ?_⟩⟩
  · have c := (nI_leI (by omega) (by omega)).mp c
    rw [if_neg (by omega)] at hK
    refine ⟨fun z => ?_, fun z => ?_⟩
    · have z := (nI_leI (by omega) (by omega)).mp z
      rw [if_neg (by omega)] at hK; exact hK
    · have z : ¬ sP (RS k dr ri ca) pr E * 10 / t ≤ E + 1 := fun y => z ((nI_leI (by omega) (by omega)).mpr y)
      rw [if_pos (by omega)] at hK; exact hK
  · have c : ¬ RS k dr ri ca g ≤ pr := fun z => c ((nI_leI (by omega) (by omega)).mpr z)
    rw [if_pos (by omega)] at hK
    exact hK
theorem isTrust_m {p : Int32} {K : Int32 → Prop} (h1 : vTr p → K 1) (h0 : ¬ vTr p → K 0) : g_X7_isTrust p K := by
  unfold g_X7_isTrust
  exact in_m (fun h => ⟨Or.inr rfl, h1 h⟩) (fun h => ⟨Or.inl rfl, h0 h⟩)
theorem guess_m (hE1 : 1 ≤ E) (hE : E ≤ 40) (ho : OF k dr ri ca pr) (hm : MO k dr ri ca pr mkd mrt mri mca mpr) {p1 p2 : Int32} {K : Int32 → Prop} (hK : K (gueS (RS k dr ri ca) pr E p1 p2)) : g_X7_guess mkd mrt mri mca mpr (nI E) mth mrq mtr mos p1 p2 K := by
  unfold gueS at hK
  unfold g_X7_guess
  refine isEnd_m (fun h1 => yes1 (isTrust_m (fun h2 => yes1 ?_) (fun h2 => no0 ?_))) (fun h1 => no0 ?_)
  · rw [if_pos ⟨h1, h2⟩] at hK
    obtain ⟨a, a1, a2, rfl⟩ := vEn_of hE h1
    obtain ⟨t, t1, t2, rfl⟩ := vTr_of h2
    rw [nI_clamp (by omega), nI_clamp (by omega)] at hK
    exact planBy_m hE1 hE ho hm a1 a2 t1 t2 hK
  · rw [if_neg (fun z => h2 z.2)] at hK; exact hK
  · rw [if_neg (fun z => h1 z.1)] at hK; exact hK
theorem trust_m (hE1 : 1 ≤ E) (hE : E ≤ 40) (ho : OF k dr ri ca pr) (hm : MO k dr ri ca pr mkd mrt mri mca mpr) {p1 p2 p3 p4 : Int32} {K : Int32 → Prop} (hK : K (truS (RS k dr ri ca) pr E p1 p2 p3 p4)) : g_X7_trust mkd mrt mri mca mpr (nI E) mth mrq mtr mos p1 p2 p3 p4 K := by
  unfold truS at hK
  unfold g_X7_trust
  refine isEnd_m (fun h1 => yes1 (isTrust_m (fun h2 => yes1 (in_m (fun h3 => yes1 (in_m (fun h4 => yes1' ?_) (fun h4 => no0' ?_))) (fun h3 => no0 ?_))) (fun h2 => no0 ?_))) (fun h1 => no0 ?_)
  · rw [if_pos ⟨h1, h2, h3, h4⟩] at hK
    obtain ⟨a, a1, a2, rfl⟩ := vEn_of hE h1
    obtain ⟨t, t1, t2, rfl⟩ := vTr_of h2
    rw [nI_clamp (by omega), nI_clamp (by omega)] at hK
    have hp := plG_b (rs := RS k dr ri ca) (pr := pr) (g := a) hE1 t1 t2
    have hpl : vPl E (nI (plG (RS k dr ri ca) pr E a t)) := ⟨(nI_leI (a := 1) (by omega) (by omega)).mpr hp.1, (nI_leI (by omega) (by omega)).mpr hp.2⟩
    refine planBy_m hE1 hE ho hm a1 a2 t1 t2 ?_
    refine ⟨fun v => K (ratS (RS k dr ri ca) pr E (nI (plG (RS k dr ri ca) pr E a t)) v p4), fun v hv => ratio_m hE1 hE ho hm hv, fun z => ?_, fun z => ?_⟩
    · rw [if_neg z] at hK
      show K (ratS _ _ _ _ _ _)
      unfold ratS
      rw [if_pos ⟨hpl, Or.inl rfl, h4⟩, nI_clamp (by omega), if_pos rfl]
      exact hK
    · rw [if_pos z] at hK
      show K (ratS _ _ _ _ _ _)
      unfold ratS
      rw [if_pos ⟨hpl, Or.inr h1, h4⟩, nI_clamp (by omega), if_neg (en0 h1), nI_clamp (by omega)]
      exact hK
  · rw [if_neg (fun z => h4 z.2.2.2)] at hK; exact hK
  · rw [if_neg (fun z => h3 z.2.2.1)] at hK; exact hK
  · rw [if_neg (fun z => h2 z.2.1)] at hK; exact hK
  · rw [if_neg (fun z => h1 z.1)] at hK; exact hK
end M4
