/-! ===== least forms ===== -/
theorem yes1 {A B : Prop} (h : B) : ((1 : Int32) = 0 → A) ∧ (¬ (1 : Int32) = 0 → B) := ⟨fun z => absurd z one0, fun _ => h⟩
theorem no0 {A B : Prop} (h : A) : ((0 : Int32) = 0 → A) ∧ (¬ (0 : Int32) = 0 → B) := ⟨fun _ => h, fun z => absurd rfl z⟩
theorem yes1' {A B : Prop} (h : B) : (¬ (1 : Int32) = 0 → B) ∧ ((1 : Int32) = 0 → A) := ⟨fun _ => h, fun z => absurd z one0⟩
theorem no0' {A B : Prop} (h : A) : (¬ (0 : Int32) = 0 → B) ∧ ((0 : Int32) = 0 → A) := ⟨fun z => absurd rfl z, fun _ => h⟩
theorem lN_z {v : Nat} (hv : v < 2 ^ 63) : lN v = 0 ↔ v = 0 := pk_lEQ (a := v) (b := 0) hv (by omega)
theorem gcd_next {u v : Nat} : Nat.gcd v (u % v) = Nat.gcd u v := by
  rw [Nat.gcd_comm v (u % v), ← Nat.gcd_rec, Nat.gcd_comm]
theorem common_m {a b : Nat} (ha : a < 2 ^ 63) (hb : b < 2 ^ 63) {K : Int64 → Prop} (hK : K (lN (Nat.gcd a b))) : g_X7_common (lN a) (lN b) K := by
  unfold g_X7_common
  refine ⟨fun n x y => ∃ u v, x = lN u ∧ y = lN v ∧ u < 2 ^ 63 ∧ v < 2 ^ 63 ∧ Nat.gcd u v = Nat.gcd a b ∧ v < n, ⟨b + 1, a, b, rfl, rfl, ha, hb, rfl, by omega⟩, ?_, ?_⟩
  · rintro x y ⟨u, v, -, -, -, -, -, h⟩
    omega
  · rintro n x y ⟨u, v, rfl, rfl, hu, hv, hg, hn⟩
    rw [lg_cmp_eq, show (0 : Int64) = lN 0 from rfl, pk_lEQ hv (by omega)]
    refine ⟨fun c => ?_, fun c => ⟨c, v, u % v, rfl, pk_lRem hu (by omega) hv, hv, ?_, ?_, ?_⟩⟩
    · subst c
      rw [Nat.gcd_zero_right] at hg
      rw [hg]
      exact hK
    · have := Nat.mod_lt u (show v > 0 by omega); omega
    · rw [gcd_next]; exact hg
    · have := Nat.mod_lt u (show v > 0 by omega); omega
theorem half_mod {u v : Nat} (hv : 0 < v) (h : v ≤ u) : 2 * (u % v) ≤ u := by
  have h1 := Nat.mod_lt u hv
  have h2 := Nat.mod_le (u - v) v
  rw [← Nat.mod_eq_sub_mod h] at h2
  omega
theorem gcd_room {u v t : Nat} (h1 : v ≤ u) (h2 : u * v * 2 ^ t ≤ 2 ^ 61) (ht : 100 ≤ t) : v = 0 := by
  by_cases hv : v = 0
  · exact hv
  · exfalso
    have h3 : 1 ≤ u * v := Nat.mul_pos (by omega) (by omega)
    have h4 : (2 : Nat) ^ 100 ≤ 2 ^ t := Nat.pow_le_pow_right (by omega) ht
    have h5 : 1 * 2 ^ 100 ≤ u * v * 2 ^ t := Nat.mul_le_mul h3 h4
    have h6 : 1 * 2 ^ 100 ≤ 2 ^ 61 := Nat.le_trans h5 h2
    exact absurd h6 (by decide)
theorem commonDivisor_c {a b : Nat} (ha : a < 2 ^ 30) (hb : b < 2 ^ 30) {K : Int64 → Prop} (hK : K (lN (Nat.gcd a b))) : g_X6_commonDivisor (lN a) (lN b) K := by
  unfold g_X6_commonDivisor
  refine ⟨fun n x y s => ∃ u v t, x = lN u ∧ y = lN v ∧ s = nI t ∧ u < 2 ^ 30 ∧ v < 2 ^ 30 ∧ Nat.gcd u v = Nat.gcd a b ∧ t ≤ 100 ∧ n = 101 - t ∧ (t = 0 ∨ (v ≤ u ∧ u * v * 2 ^ t ≤ 2 ^ 61)), ⟨101, a, b, 0, rfl, rfl, rfl, ha, hb, rfl, by omega, rfl, Or.inl rfl⟩, ?_, ?_⟩
  · rintro x y s ⟨u, v, t, -, -, -, -, -, -, h, h', -⟩
    omega
  · rintro n x y s ⟨u, v, t, rfl, rfl, rfl, hu, hv, hg, ht, hn, hp⟩
    have fin : v = 0 → K (lN u) := by
      intro c
      subst c
      rw [Nat.gcd_zero_right] at hg
      rw [hg]
      exact hK
    refine ⟨fun c => ?_, fun c => ?_⟩
    · have c := (nI_leI (a := 100) (by omega) (by omega)).mp c
      rcases hp with h | ⟨h1, h2⟩
      · omega
      · exact fin (gcd_room h1 h2 c)
    · have c : ¬ 100 ≤ t := fun z => c ((nI_leI (a := 100) (by omega) (by omega)).mpr z)
      rw [lg_cmp_eq, show (0 : Int64) = lN 0 from rfl, pk_lEQ (by omega) (by omega)]
      refine ⟨fin, fun q => ⟨q, v, u % v, t + 1, rfl, pk_lRem (by omega) (by omega) (by omega), nI_1 _, hv, ?_, ?_, by omega, by omega, Or.inr ⟨?_, ?_⟩⟩⟩
      · have := Nat.mod_lt u (show v > 0 by omega); omega
      · rw [gcd_next]; exact hg
      · have := Nat.mod_lt u (show v > 0 by omega); omega
      · have hm := Nat.mod_lt u (show v > 0 by omega)
        rcases hp with h | ⟨h1, h2⟩
        · subst h
          have h3 : v * (u % v) ≤ 2 ^ 30 * 2 ^ 30 := Nat.mul_le_mul (by omega) (by omega)
          have h4 : v * (u % v) * 2 ^ (0 + 1) ≤ 2 ^ 30 * 2 ^ 30 * 2 ^ (0 + 1) := Nat.mul_le_mul_right _ h3
          exact Nat.le_trans h4 (by decide)
        · have h3 := half_mod (show 0 < v by omega) h1
          have h4 : v * 2 ^ t * (2 * (u % v)) ≤ v * 2 ^ t * u := Nat.mul_le_mul_left _ h3
          have e1 : v * (u % v) * 2 ^ (t + 1) = v * 2 ^ t * (2 * (u % v)) := by rw [Nat.pow_succ]; ac_rfl
          have e2 : u * v * 2 ^ t = v * 2 ^ t * u := by ac_rfl
          rw [e1]
          rw [e2] at h2
          exact Nat.le_trans h4 h2
theorem roundedDown_c {u v : Nat} (hu : u < 2 ^ 63) (hv : v < 2 ^ 63) (h0 : 0 < v) {K : Int64 → Prop} (hK : K (lN (u / v))) : g_X6_roundedDown (lN u) (lN v) K := by
  unfold g_X6_roundedDown
  rw [lg_cmp_le, show (0 : Int64) = lN 0 from rfl, pk_lLE hv (by omega), pk_lEQ hv (by omega), pk_lDiv hu h0 hv]
  exact ⟨fun c => absurd c (by omega), fun c => ⟨by omega, hK⟩⟩
theorem roundedUp_c {u v : Nat} (hu : u < 2 ^ 62) (hv : v < 2 ^ 62) (h0 : 0 < v) {K : Int64 → Prop} (hK : K (lN ((u + v - 1) / v))) : g_X6_roundedUp (lN u) (lN v) K := by
  unfold g_X6_roundedUp
  rw [lN_add, show (lN (u + v) - 1 : Int64) = lN (u + v - 1) from lN_sub (b := 1) (by omega)]
  exact roundedDown_c (by omega) (by omega) h0 hK
/-- a part of a ratio in least form -/
def lf (a b : Nat) (part : Int32) : Nat := (if part = 0 then a else b) / Nat.gcd a b
theorem lf_b {a b : Nat} {part : Int32} : lf a b part ≤ a + b := by
  unfold lf
  refine Nat.le_trans (Nat.div_le_self _ _) ?_
  split <;> omega
theorem leastForm_c {a b : Nat} (ha : a < 2 ^ 30) (hb : b < 2 ^ 30) (h0 : 0 < b) {part : Int32} {K : Int64 → Prop} (hK : K (lN (lf a b part))) : g_X6_leastForm (lN a) (lN b) part K := by
  have hg : 0 < Nat.gcd a b := Nat.gcd_pos_of_pos_right a h0
  have hg2 : Nat.gcd a b ≤ b := Nat.gcd_le_right a h0
  unfold g_X6_leastForm
  unfold lf at hK
  refine ⟨fun t => t = lN (if part = 0 then a else b), ?_, fun c => by rw [if_neg c], fun c => by rw [if_pos c]⟩
  rintro t rfl
  refine commonDivisor_c ha hb (roundedDown_c ?_ (by omega) hg hK)
  split <;> omega
/-! ===== parts of ratios ===== -/
def rat (rs : Nat → Nat) (pr p e : Nat) (part : Int32) : Nat := lf (cst rs pr p e) (knw rs pr e) part
section C3
variable {trc : Int64} {tkd tkp tkr tkc : Int32} {tkk : Nat} {rsF : Nat → Int32} {rs : Nat → Nat} {pr E : Nat}
theorem ratioPart_c {days : Int32} (hb : RB rs pr) (hc : CR rs pr rsF tkp) {p e : Nat} (h1 : 1 ≤ p) (h2 : p ≤ 41) (h3 : 1 ≤ e) (h4 : e ≤ 40) {part : Int32} {K : Int32 → Prop} (hK : K (nI (rat rs pr p e part))) : g_X3_ratioPart days tkk tkd tkp tkr tkc rsF (nI p) (nI e) part K := by
  have b1 := cst_b hb h2 h3 h4
  have b2 := knw_b hb h3 h4
  unfold g_X3_ratioPart
  refine costOf_c hb hc h1 h2 h4 (knownBy_c hb hc h4 ?_)
  rw [nI_l (by omega), nI_l (by omega)]
  refine leastForm_c (by omega) (by omega) (by omega) ?_
  rw [lN_i]
  exact hK
end C3
abbrev vPa (p : Int32) : Prop := (0 : Int32) ≤ p ∧ p ≤ (1 : Int32)
abbrev vTr (p : Int32) : Prop := (1 : Int32) ≤ p ∧ p ≤ (9 : Int32)
theorem vTr_of {p : Int32} (h : vTr p) : ∃ d, 1 ≤ d ∧ d ≤ 9 ∧ p = nI d := rng (a := 1) (b := 9) (by omega) (by omega) h.1 h.2
theorem en0 {E : Nat} {p : Int32} (h : vEn E p) : ¬ p = 0 := by
  intro q
  subst q
  exact absurd h.1 (by decide)
def cosS (rs : Nat → Nat) (pr E : Nat) (p1 p2 : Int32) : Int32 := if vPl E p1 ∧ vEn E p2 then nI (cst rs pr p1.toNatClampNeg p2.toNatClampNeg) else -1
def knwS (rs : Nat → Nat) (pr E : Nat) (p1 : Int32) : Int32 := if vEn E p1 then nI (knw rs pr p1.toNatClampNeg) else -1
def ratS (rs : Nat → Nat) (pr E : Nat) (p1 p2 p3 : Int32) : Int32 := if vPl E p1 ∧ (p2 = 0 ∨ vEn E p2) ∧ vPa p3 then nI (rat rs pr p1.toNatClampNeg (if p2 = 0 then wE rs pr E p1.toNatClampNeg else p2.toNatClampNeg) p3) else -1
/-- the plan by a guess and a trust -/
def plG (rs : Nat → Nat) (pr E g t : Nat) : Nat := if pr < rs g then (sP rs pr E * t + 9) / 10 else if E + 1 < sP rs pr E * 10 / t then E + 1 else sP rs pr E * 10 / t
def gueS (rs : Nat → Nat) (pr E : Nat) (p1 p2 : Int32) : Int32 := if vEn E p1 ∧ vTr p2 then nI (plG rs pr E p1.toNatClampNeg p2.toNatClampNeg) else -1
def truS (rs : Nat → Nat) (pr E : Nat) (p1 p2 p3 p4 : Int32) : Int32 := if vEn E p1 ∧ vTr p2 ∧ vPa p3 ∧ vPa p4 then nI (rat rs pr (plG rs pr E p1.toNatClampNeg p2.toNatClampNeg) (if p3 = 0 then p1.toNatClampNeg else wE rs pr E (plG rs pr E p1.toNatClampNeg p2.toNatClampNeg)) p4) else -1
theorem plG_b {rs : Nat → Nat} {pr E g t : Nat} (hE : 1 ≤ E) (h1 : 1 ≤ t) (h2 : t ≤ 9) : 1 ≤ plG rs pr E g t ∧ plG rs pr E g t ≤ E + 1 := by
  have hs := sP_b (rs := rs) (pr := pr) hE
  unfold plG
  split
  · have h3 : 1 * 1 ≤ sP rs pr E * t := Nat.mul_le_mul hs.1 h1
    have h4 : sP rs pr E * t ≤ (E + 1) * 9 := Nat.mul_le_mul hs.2 h2
    omega
  · split
    · omega
    · have h3 : 1 ≤ sP rs pr E * 10 / t := (Nat.le_div_iff_mul_le (by omega)).mpr (by omega)
      omega
section C4
variable {trc : Int64} {tkd tkp tkr tkc : Int32} {tkk : Nat} {rsF : Nat → Int32} {rs : Nat → Nat} {pr E : Nat}
theorem cost_c (hE : E ≤ 40) (hb : RB rs pr) (hc : CR rs pr rsF tkp) {p1 p2 : Int32} {K : Int32 → Prop} (hK : K (cosS rs pr E p1 p2)) : g_X6_cost trc (nI E) tkk tkd tkp tkr tkc rsF p1 p2 K := by
  unfold cosS at hK
  unfold g_X6_cost
  refine isPlan_c (fun h1 => yes1 (isEnd_c (fun h2 => yes1' ?_) (fun h2 => no0' ?_))) (fun h1 => no0 ?_)
  · rw [if_pos ⟨h1, h2⟩] at hK
    obtain ⟨a, a1, a2, rfl⟩ := vPl_of hE h1
    obtain ⟨e, e1, e2, rfl⟩ := vEn_of hE h2
    rw [nI_clamp (by omega), nI_clamp (by omega)] at hK
    exact costOf_c hb hc a1 (by omega) (by omega) hK
  · rw [if_neg (fun z => h2 z.2)] at hK; exact hK
  · rw [if_neg (fun z => h1 z.1)] at hK; exact hK
theorem known_c (hE : E ≤ 40) (hb : RB rs pr) (hc : CR rs pr rsF tkp) {p1 : Int32} {K : Int32 → Prop} (hK : K (knwS rs pr E p1)) : g_X6_known trc (nI E) tkk tkd tkp tkr tkc rsF p1 K := by
  unfold knwS at hK
  unfold g_X6_known
  refine isEnd_c (fun h2 => yes1' ?_) (fun h2 => no0' ?_)
  · rw [if_pos h2] at hK
    obtain ⟨e, e1, e2, rfl⟩ := vEn_of hE h2
    rw [nI_clamp (by omega)] at hK
    exact knownBy_c hb hc (by omega) hK
  · rw [if_neg h2] at hK; exact hK
theorem sure_c (hE1 : 1 ≤ E) (hE : E ≤ 40) (hb : RB rs pr) (hc : CR rs pr rsF tkp) {K : Int32 → Prop} (hK : K (nI (sP rs pr E))) : g_X6_sure trc (nI E) tkk tkd tkp tkr tkc rsF K := by
  unfold g_X6_sure
  exact surePlan_c hE1 hE hb hc hK
theorem ratio_c (hE1 : 1 ≤ E) (hE : E ≤ 40) (hb : RB rs pr) (hc : CR rs pr rsF tkp) {p1 p2 p3 : Int32} {K : Int32 → Prop} (hK : K (ratS rs pr E p1 p2 p3)) : g_X6_ratio trc (nI E) tkk tkd tkp tkr tkc rsF p1 p2 p3 K := by
  unfold ratS at hK
  unfold g_X6_ratio
  refine isPlan_c (fun h1 => yes1 ?_) (fun h1 => no0 ?_)
  · refine ⟨p2 = 0 ∨ vEn E p2, fun h2 => in_c (fun h3 => yes1' ?_) (fun h3 => no0' ?_), fun z => Or.inl z, fun z => isEnd_c (fun h2 => yes1 (Or.inr h2)) (fun h2 => no0 ?_)⟩
    · rw [if_pos ⟨h1, h2, h3⟩] at hK
      obtain ⟨a, a1, a2, rfl⟩ := vPl_of hE h1
      rw [nI_clamp (by omega)] at hK
      refine ⟨fun v => ∃ e, 1 ≤ e ∧ e ≤ 40 ∧ v = nI e ∧ K (nI (rat rs pr a e p3)), ?_, fun z => ?_, fun z => ?_⟩
      · rintro v ⟨e, e1, e2, rfl, hK⟩
        exact ratioPart_c hb hc a1 (by omega) e1 e2 hK
      · rcases h2 with h2 | h2
        · exact absurd h2 z
        · rw [if_neg z] at hK
          obtain ⟨e, e1, e2, rfl⟩ := vEn_of hE h2
          rw [nI_clamp (by omega)] at hK
          exact ⟨e, e1, by omega, rfl, hK⟩
      · rw [if_pos z] at hK
        have hw := wE_b (rs := rs) (pr := pr) (E := E) (p := a) hE1
        exact worstEnd_c hE1 hE hb hc a1 (by omega) ⟨_, hw.1, by omega, rfl, hK⟩
    · rw [if_neg (fun z => h3 z.2.2)] at hK; exact hK
    · rw [if_neg (fun y => y.2.1.elim z h2)] at hK; exact hK
  · rw [if_neg (fun z => h1 z.1)] at hK; exact hK
theorem planByGuess_c (hE1 : 1 ≤ E) (hE : E ≤ 40) (hb : RB rs pr) (hc : CR rs pr rsF tkp) {g t : Nat} (g1 : 1 ≤ g) (g2 : g ≤ E) (t1 : 1 ≤ t) (t2 : t ≤ 9) {K : Int32 → Prop} (hK : K (nI (plG rs pr E g t))) : g_X3_planByGuess (nI E) tkk tkd tkp tkr tkc rsF (nI g) (nI t) K := by
  have hs := sP_b (rs := rs) (pr := pr) hE1
  obtain ⟨q1, q2, q3, q4, q5⟩ := id hb
  have := q1 g (by omega)
  unfold g_X3_planByGuess
  refine surePlan_c hE1 hE hb hc (costOf_c (p := 1) hb hc (by omega) (by omega) (by omega) ⟨vp_in_nI (by omega) (by omega), ?_⟩)
  have e1 : cst rs pr 1 g = pr := by
    unfold cst
    rw [if_pos g1]
    show rs 0 + pr = pr
    omega
  unfold plG at hK
  have h4 : sP rs pr E * t ≤ (E + 1) * 9 := Nat.mul_le_mul hs.2 t2
  rw [nI_clamp (by omega), hc.1 g (by omega), e1, nI_l (by omega), nI_l (by omega), show (10 : Int64) = lN 10 from rfl, lN_mul, lN_mul]
  refine ⟨fun c => ?_, fun c => ?_⟩
  · have c := (nI_leI (by omega) (by omega)).mp c
    rw [if_neg (by omega)] at hK
    refine roundedDown_c (by omega) (by omega) (by omega) ?_
    have hd : sP rs pr E * 10 / t ≤ sP rs pr E * 10 := Nat.div_le_self _ _
    rw [nI_1, nI_l (by omega)]
    by_cases z : E + 1 < sP rs pr E * 10 / t
    · rw [if_pos z] at hK
      rw [if_pos ((pk_lLT (by omega) (by omega)).mpr z), lN_i]; exact hK
    · rw [if_neg z] at hK
      rw [if_neg (fun y => z ((pk_lLT (by omega) (by omega)).mp y)), lN_i]; exact hK
  · have c : ¬ rs g ≤ pr := fun z => c ((nI_leI (by omega) (by omega)).mpr z)
    rw [if_pos (by omega)] at hK
    refine roundedUp_c (by omega) (by omega) (by omega) ?_
    rw [lN_i]
    exact hK
theorem guess_c (hE1 : 1 ≤ E) (hE : E ≤ 40) (hb : RB rs pr) (hc : CR rs pr rsF tkp) {p1 p2 : Int32} {K : Int32 → Prop} (hK : K (gueS rs pr E p1 p2)) : g_X6_guess trc (nI E) tkk tkd tkp tkr tkc rsF p1 p2 K := by
  unfold gueS at hK
  unfold g_X6_guess
  refine isEnd_c (fun h1 => yes1 (in_c (fun h2 => yes1' ?_) (fun h2 => no0' ?_))) (fun h1 => no0 ?_)
  · rw [if_pos ⟨h1, h2⟩] at hK
    obtain ⟨a, a1, a2, rfl⟩ := vEn_of hE h1
    obtain ⟨t, t1, t2, rfl⟩ := vTr_of h2
    rw [nI_clamp (by omega), nI_clamp (by omega)] at hK
    exact planByGuess_c hE1 hE hb hc a1 a2 t1 t2 hK
  · rw [if_neg (fun z => h2 z.2)] at hK; exact hK
  · rw [if_neg (fun z => h1 z.1)] at hK; exact hK
theorem trust_c (hE1 : 1 ≤ E) (hE : E ≤ 40) (hb : RB rs pr) (hc : CR rs pr rsF tkp) {p1 p2 p3 p4 : Int32} {K : Int32 → Prop} (hK : K (truS rs pr E p1 p2 p3 p4)) : g_X6_trust trc (nI E) tkk tkd tkp tkr tkc rsF p1 p2 p3 p4 K := by
  unfold truS at hK
  unfold g_X6_trust
  refine isEnd_c (fun h1 => yes1 (in_c (fun h2 => yes1' (in_c (fun h3 => yes1 (in_c (fun h4 => yes1' ?_) (fun h4 => no0' ?_))) (fun h3 => no0 ?_))) (fun h2 => no0' ?_))) (fun h1 => no0 ?_)
  · rw [if_pos ⟨h1, h2, h3, h4⟩] at hK
    obtain ⟨a, a1, a2, rfl⟩ := vEn_of hE h1
    obtain ⟨t, t1, t2, rfl⟩ := vTr_of h2
    rw [nI_clamp (by omega), nI_clamp (by omega)] at hK
    have hp := plG_b (rs := rs) (pr := pr) (g := a) hE1 t1 t2
    refine planByGuess_c hE1 hE hb hc a1 a2 t1 t2 ?_
    refine ⟨fun v => ∃ e, 1 ≤ e ∧ e ≤ 40 ∧ v = nI e ∧ K (nI (rat rs pr (plG rs pr E a t) e p4)), ?_, fun z => ?_, fun z => ?_⟩
    · rintro v ⟨e, e1, e2, rfl, hK⟩
      exact ratioPart_c hb hc hp.1 (by omega) e1 e2 hK
    · rw [if_neg z] at hK
      have hw := wE_b (rs := rs) (pr := pr) (E := E) (p := plG rs pr E a t) hE1
      exact worstEnd_c hE1 hE hb hc hp.1 (by omega) ⟨_, hw.1, by omega, rfl, hK⟩
    · rw [if_pos z] at hK
      exact ⟨a, a1, by omega, rfl, hK⟩
  · rw [if_neg (fun z => h4 z.2.2.2)] at hK; exact hK
  · rw [if_neg (fun z => h3 z.2.2.1)] at hK; exact hK
  · rw [if_neg (fun z => h2 z.2.1)] at hK; exact hK
  · rw [if_neg (fun z => h1 z.1)] at hK; exact hK
end C4
