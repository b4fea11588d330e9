/-! ===== worst ends, the sure plan ===== -/
theorem mul_b {a b : Nat} (ha : a ≤ 33700) (hb : b ≤ 500) : a * b ≤ 16850000 := Nat.le_trans (Nat.mul_le_mul ha hb) (by omega)
theorem mul_cmp {a b c d : Nat} (ha : a ≤ 33700) (hb : b ≤ 500) (hc : c ≤ 33700) (hd : d ≤ 500) : lg_cmp ((nI a).toInt64 * (nI b).toInt64) ((nI c).toInt64 * (nI d).toInt64) ≤ 0 ↔ a * b ≤ c * d := by
  have h1 := mul_b ha hb
  have h2 := mul_b hc hd
  rw [nI_l (by omega), nI_l (by omega), nI_l (by omega), nI_l (by omega), lN_mul, lN_mul, lg_cmp_le, pk_lLE (by omega) (by omega)]
theorem mul_cmq {a b c d : Nat} (ha : a ≤ 33700) (hb : b ≤ 500) (hc : c ≤ 33700) (hd : d ≤ 500) : 0 ≤ lg_cmp ((nI a).toInt64 * (nI b).toInt64) ((nI c).toInt64 * (nI d).toInt64) ↔ c * d ≤ a * b := by
  have h1 := mul_b ha hb
  have h2 := mul_b hc hd
  rw [nI_l (by omega), nI_l (by omega), nI_l (by omega), nI_l (by omega), lN_mul, lN_mul, lg_cmp_ge, pk_lLE (by omega) (by omega)]
/-- the worst of the ends 1 .. j + 1 -/
def wst (c kn : Nat → Nat) : Nat → Nat
  | 0 => 1
  | j + 1 => if c (wst c kn j) * kn (j + 2) < c (j + 2) * kn (wst c kn j) then j + 2 else wst c kn j
theorem wst_p {c kn : Nat → Nat} {j : Nat} (h : c (wst c kn j) * kn (j + 2) < c (j + 2) * kn (wst c kn j)) : wst c kn (j + 1) = j + 2 := by
  show (if c (wst c kn j) * kn (j + 2) < c (j + 2) * kn (wst c kn j) then j + 2 else wst c kn j) = _
  rw [if_pos h]
theorem wst_n {c kn : Nat → Nat} {j : Nat} (h : ¬ c (wst c kn j) * kn (j + 2) < c (j + 2) * kn (wst c kn j)) : wst c kn (j + 1) = wst c kn j := by
  show (if c (wst c kn j) * kn (j + 2) < c (j + 2) * kn (wst c kn j) then j + 2 else wst c kn j) = _
  rw [if_neg h]
theorem wst_b (c kn : Nat → Nat) : ∀ j, 1 ≤ wst c kn j ∧ wst c kn j ≤ j + 1 := by
  intro j
  induction j with
  | zero => exact ⟨Nat.le_refl 1, Nat.le_refl 1⟩
  | succ j ih =>
    unfold wst
    split <;> omega
/-- the best of the plans 1 .. j + 1, with its worst end -/
def sur (rs : Nat → Nat) (pr : Nat) (w : Nat → Nat) : Nat → Nat × Nat
  | 0 => (1, w 1)
  | j + 1 => if cst rs pr (j + 2) (w (j + 2)) * knw rs pr (sur rs pr w j).2 < cst rs pr (sur rs pr w j).1 (sur rs pr w j).2 * knw rs pr (w (j + 2)) then (j + 2, w (j + 2)) else sur rs pr w j
theorem sur_b {rs : Nat → Nat} {pr E : Nat} {w : Nat → Nat} (hw : ∀ p, 1 ≤ w p ∧ w p ≤ E) : ∀ j, 1 ≤ (sur rs pr w j).1 ∧ (sur rs pr w j).1 ≤ j + 1 ∧ 1 ≤ (sur rs pr w j).2 ∧ (sur rs pr w j).2 ≤ E := by
  intro j
  induction j with
  | zero => exact ⟨Nat.le_refl 1, Nat.le_refl 1, hw 1⟩
  | succ j ih =>
    unfold sur
    split
    · exact ⟨by show 1 ≤ j + 2; omega, Nat.le_refl _, hw _⟩
    · exact ⟨ih.1, by omega, ih.2.2⟩
def wE (rs : Nat → Nat) (pr E p : Nat) : Nat := wst (cst rs pr p) (knw rs pr) (E - 1)
def sP (rs : Nat → Nat) (pr E : Nat) : Nat := (sur rs pr (wE rs pr E) E).1
theorem wE_b {rs : Nat → Nat} {pr E p : Nat} (hE : 1 ≤ E) : 1 ≤ wE rs pr E p ∧ wE rs pr E p ≤ E := by
  have := wst_b (cst rs pr p) (knw rs pr) (E - 1)
  unfold wE
  omega
theorem sP_b {rs : Nat → Nat} {pr E : Nat} (hE : 1 ≤ E) : 1 ≤ sP rs pr E ∧ sP rs pr E ≤ E + 1 := by
  have := sur_b (rs := rs) (pr := pr) (E := E) (w := wE rs pr E) (fun p => wE_b hE) E
  exact ⟨this.1, this.2.1⟩
section C2
variable {tkd tkp tkr tkc : Int32} {tkk : Nat} {rsF : Nat → Int32} {rs : Nat → Nat} {pr E : Nat}
theorem greater_c {days : Int32} (hb : RB rs pr) (hc : CR rs pr rsF tkp) {p e p' e' : Nat} (h1 : 1 ≤ p) (h2 : p ≤ 41) (h3 : 1 ≤ e) (h4 : e ≤ 40) (h5 : 1 ≤ p') (h6 : p' ≤ 41) (h7 : 1 ≤ e') (h8 : e' ≤ 40) {K : Int32 → Prop} (hK1 : cst rs pr p' e' * knw rs pr e < cst rs pr p e * knw rs pr e' → K 1) (hK0 : ¬ cst rs pr p' e' * knw rs pr e < cst rs pr p e * knw rs pr e' → K 0) : g_X3_isRatioGreater days tkk tkd tkp tkr tkc rsF (nI p) (nI e) (nI p') (nI e') K := by
  unfold g_X3_isRatioGreater
  refine costOf_c hb hc h1 h2 h4 (knownBy_c hb hc h8 (costOf_c hb hc h5 h6 h8 (knownBy_c hb hc h4 ?_)))
  have b1 := cst_b hb h2 h3 h4
  have b2 := knw_b hb h7 h8
  have b3 := cst_b hb h6 h7 h8
  have b4 := knw_b hb h3 h4
  rw [mul_cmp b1.2 b2.2 b3.2 b4.2]
  exact ⟨fun c => hK0 (by omega), fun c => hK1 (by omega)⟩
theorem worstEnd_c (hE1 : 1 ≤ E) (hE : E ≤ 40) (hb : RB rs pr) (hc : CR rs pr rsF tkp) {p : Nat} (h1 : 1 ≤ p) (h2 : p ≤ 41) {K : Int32 → Prop} (hK : K (nI (wE rs pr E p))) : g_X3_worstEnd (nI E) tkk tkd tkp tkr tkc rsF (nI p) K := by
  unfold g_X3_worstEnd
  refine ⟨fun n w i => ∃ j, j + 1 ≤ E ∧ n = E - j ∧ w = nI (wst (cst rs pr p) (knw rs pr) j) ∧ i = nI (j + 2), ⟨E, 0, hE1, rfl, rfl, rfl⟩, ?_, ?_⟩
  · rintro w i ⟨j, h, h', -⟩
    omega
  · rintro n w i ⟨j, hj, hn, rfl, rfl⟩
    have hw := wst_b (cst rs pr p) (knw rs pr) j
    refine ⟨fun c => ?_, fun c => ?_⟩
    · have c := (nI_ltI (by omega) (by omega)).mp c
      have : j = E - 1 := by omega
      subst this
      exact hK
    · have c : ¬ E < j + 2 := fun z => c ((nI_ltI (by omega) (by omega)).mpr z)
      refine greater_c hb hc h1 h2 (by omega) (by omega) h1 h2 (by omega) (by omega) (fun q => ?_) (fun q => ?_)
      · refine ⟨fun v => v = nI (j + 2), ?_, fun z => absurd z one0, fun _ => rfl⟩
        rintro v rfl
        exact ⟨j + 1, by omega, by omega, by unfold wst; rw [if_pos q], nI_1 _⟩
      · refine ⟨fun v => v = nI (wst (cst rs pr p) (knw rs pr) j), ?_, fun _ => rfl, fun z => absurd rfl z⟩
        rintro v rfl
        exact ⟨j + 1, by omega, by omega, by conv => rhs; unfold wst; rw [if_neg q], nI_1 _⟩
theorem surePlan_c (hE1 : 1 ≤ E) (hE : E ≤ 40) (hb : RB rs pr) (hc : CR rs pr rsF tkp) {K : Int32 → Prop} (hK : K (nI (sP rs pr E))) : g_X3_surePlan (nI E) tkk tkd tkp tkr tkc rsF K := by
  unfold g_X3_surePlan
  refine worstEnd_c (p := 1) hE1 hE hb hc (by omega) (by omega) ?_
  refine ⟨fun n b w i => ∃ j, j ≤ E ∧ n = E - j + 1 ∧ b = nI (sur rs pr (wE rs pr E) j).1 ∧ w = nI (sur rs pr (wE rs pr E) j).2 ∧ i = nI (j + 2), ⟨E + 1, 0, by omega, by omega, rfl, rfl, rfl⟩, ?_, ?_⟩
  · rintro b w i ⟨j, h, h', -⟩
    omega
  · rintro n b w i ⟨j, hj, hn, rfl, rfl, rfl⟩
    have hs := sur_b (rs := rs) (pr := pr) (E := E) (w := wE rs pr E) (fun p => wE_b hE1) j
    have hw := wE_b (rs := rs) (pr := pr) (E := E) (p := j + 2) hE1
    rw [nI_1]
    refine ⟨fun c => ?_, fun c => ?_⟩
    · have c := (nI_ltI (by omega) (by omega)).mp c
      have : j = E := by omega
      subst this
      exact hK
    · have c : ¬ E + 1 < j + 2 := fun z => c ((nI_ltI (by omega) (by omega)).mpr z)
      refine worstEnd_c hE1 hE hb hc (by omega) (by omega) ?_
      refine greater_c hb hc hs.1 (by omega) hs.2.2.1 (by omega) (by omega) (by omega) hw.1 (by omega) (fun q => ?_) (fun q => ?_)
      · refine ⟨fun v x => v = nI (j + 2) ∧ x = nI (wE rs pr E (j + 2)), ?_, fun z => absurd z one0, fun _ => ⟨rfl, rfl⟩⟩
        rintro v x ⟨rfl, rfl⟩
        refine ⟨j + 1, by omega, by omega, ?_, ?_, nI_1 _⟩
        · unfold sur; rw [if_pos q]
        · unfold sur; rw [if_pos q]
      · refine ⟨fun v x => v = nI (sur rs pr (wE rs pr E) j).1 ∧ x = nI (sur rs pr (wE rs pr E) j).2, ?_, fun _ => ⟨rfl, rfl⟩, fun z => absurd rfl z⟩
        rintro v x ⟨rfl, rfl⟩
        refine ⟨j + 1, by omega, by omega, ?_, ?_, nI_1 _⟩
        · conv => rhs; unfold sur; rw [if_neg q]
        · conv => rhs; unfold sur; rw [if_neg q]
end C2
section M2
variable {mkd mrt mri mca mpr mth mrq mos : Int32} {mtr : Int64} {k dr ri ca pr E : Nat}
theorem worstEnd_m (hE1 : 1 ≤ E) (hE : E ≤ 40) (ho : OF k dr ri ca pr) (hm : MO k dr ri ca pr mkd mrt mri mca mpr) {p : Nat} (h1 : 1 ≤ p) (h2 : p ≤ 41) {K : Int32 → Prop} (hK : K (nI (wE (RS k dr ri ca) pr E p))) : g_X7_worstEnd mkd mrt mri mca mpr (nI E) mth mrq mtr mos (nI p) K := by
  have hb := ho.rb
  unfold g_X7_worstEnd
  refine ⟨fun n w i => ∃ j, j + 1 ≤ E ∧ n = E - j ∧ w = nI (wst (cst (RS k dr ri ca) pr p) (knw (RS k dr ri ca) pr) j) ∧ i = nI (j + 2), ⟨E, 0, hE1, rfl, rfl, rfl⟩, ?_, ?_⟩
  · rintro w i ⟨j, h, h', -⟩
    omega
  · rintro n w i ⟨j, hj, hn, rfl, rfl⟩
    have hw := wst_b (cst (RS k dr ri ca) pr p) (knw (RS k dr ri ca) pr) j
    refine ⟨fun c => ?_, fun c => ?_⟩
    · have c := (nI_ltI (by omega) (by omega)).mp c
      have : j = E - 1 := by omega
      subst this
      exact hK
    · have c : ¬ E < j + 2 := fun z => c ((nI_ltI (by omega) (by omega)).mpr z)
      refine costOf_m ho hm h1 h2 (by omega) (knownBy_m ho hm (by omega) (costOf_m ho hm h1 h2 (by omega) (knownBy_m ho hm (by omega) ?_)))
      have b1 := cst_b hb h2 (e := j + 2) (by omega) (by omega)
      have b2 := knw_b hb (e := wst (cst (RS k dr ri ca) pr p) (knw (RS k dr ri ca) pr) j) (by omega) (by omega)
      have b3 := cst_b hb h2 (e := wst (cst (RS k dr ri ca) pr p) (knw (RS k dr ri ca) pr) j) (by omega) (by omega)
      have b4 := knw_b hb (e := j + 2) (by omega) (by omega)
      refine ⟨fun v => v = nI (wst (cst (RS k dr ri ca) pr p) (knw (RS k dr ri ca) pr) (j + 1)), ?_, ?_⟩
      · rintro v rfl
        exact ⟨j + 1, by omega, by omega, rfl, nI_1 _⟩
      · rw [mul_cmp b1.2 b2.2 b3.2 b4.2]
        exact ⟨fun q => congrArg nI (wst_n (by omega)).symm, fun q => congrArg nI (wst_p (by omega)).symm⟩
theorem surePlan_m (hE1 : 1 ≤ E) (hE : E ≤ 40) (ho : OF k dr ri ca pr) (hm : MO k dr ri ca pr mkd mrt mri mca mpr) {K : Int32 → Prop} (hK : K (nI (sP (RS k dr ri ca) pr E))) : g_X7_surePlan mkd mrt mri mca mpr (nI E) mth mrq mtr mos K := by
  have hb := ho.rb
  unfold g_X7_surePlan
  refine worstEnd_m (p := 1) hE1 hE ho hm (by omega) (by omega) ?_
  refine ⟨fun n b w i => ∃ j, j ≤ E ∧ n = E - j + 1 ∧ b = nI (sur (RS k dr ri ca) pr (wE (RS k dr ri ca) pr E) j).1 ∧ w = nI (sur (RS k dr ri ca) pr (wE (RS k dr ri ca) pr E) j).2 ∧ i = nI (j + 2), ⟨E + 1, 0, by omega, by omega, rfl, rfl, rfl⟩, ?_, ?_⟩
  · rintro b w i ⟨j, h, h', -⟩
    omega
  · rintro n b w i ⟨j, hj, hn, rfl, rfl, rfl⟩
    have hs := sur_b (rs := RS k dr ri ca) (pr := pr) (E := E) (w := wE (RS k dr ri ca) pr E) (fun p => wE_b hE1) j
    have hw := wE_b (rs := RS k dr ri ca) (pr := pr) (E := E) (p := j + 2) hE1
    rw [nI_1]
    refine ⟨fun c => ?_, fun c => ?_⟩
    · have c := (nI_ltI (by omega) (by omega)).mp c
      have : j = E := by omega
      subst this
      exact hK
    · have c : ¬ E + 1 < j + 2 := fun z => c ((nI_ltI (by omega) (by omega)).mpr z)
      refine worstEnd_m hE1 hE ho hm (by omega) (by omega) ?_
      refine costOf_m ho hm (by omega) (by omega) (by omega) (knownBy_m ho hm (by omega) (costOf_m ho hm hs.1 (by omega) (by omega) (knownBy_m ho hm (by omega) ?_)))
      have b1 := cst_b hb (p := j + 2) (by omega) hw.1 (by omega)
      have b2 := knw_b hb hs.2.2.1 (by omega)
      have b3 := cst_b hb (p := (sur (RS k dr ri ca) pr (wE (RS k dr ri ca) pr E) j).1) (by omega) hs.2.2.1 (by omega)
      have b4 := knw_b hb hw.1 (by omega)
      refine ⟨fun v x => v = nI (sur (RS k dr ri ca) pr (wE (RS k dr ri ca) pr E) (j + 1)).1 ∧ x = nI (sur (RS k dr ri ca) pr (wE (RS k dr ri ca) pr E) (j + 1)).2, ?_, ?_⟩
      · rintro v x ⟨rfl, rfl⟩
        exact ⟨j + 1, by omega, by omega, rfl, rfl, nI_1 _⟩
      · rw [mul_cmq b1.2 b2.2 b3.2 b4.2]
        refine ⟨fun q => ?_, fun q => ?_⟩
        · have q : ¬ cst (RS k dr ri ca) pr (j + 2) (wE (RS k dr ri ca) pr E (j + 2)) * knw (RS k dr ri ca) pr (sur (RS k dr ri ca) pr (wE (RS k dr ri ca) pr E) j).2 < cst (RS k dr ri ca) pr (sur (RS k dr ri ca) pr (wE (RS k dr ri ca) pr E) j).1 (sur (RS k dr ri ca) pr (wE (RS k dr ri ca) pr E) j).2 * knw (RS k dr ri ca) pr (wE (RS k dr ri ca) pr E (j + 2)) := by omega
          constructor
          · conv => rhs; unfold sur; rw [if_neg q]
          · conv => rhs; unfold sur; rw [if_neg q]
        · have q : cst (RS k dr ri ca) pr (j + 2) (wE (RS k dr ri ca) pr E (j + 2)) * knw (RS k dr ri ca) pr (sur (RS k dr ri ca) pr (wE (RS k dr ri ca) pr E) j).2 < cst (RS k dr ri ca) pr (sur (RS k dr ri ca) pr (wE (RS k dr ri ca) pr E) j).1 (sur (RS k dr ri ca) pr (wE (RS k dr ri ca) pr E) j).2 * knw (RS k dr ri ca) pr (wE (RS k dr ri ca) pr E (j + 2)) := by omega
          constructor
          · conv => rhs; unfold sur; rw [if_pos q]
          · conv => rhs; unfold sur; rw [if_pos q]
end M2
