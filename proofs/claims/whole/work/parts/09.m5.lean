/-! ===== shares ===== -/
def SM (f : Nat → Nat) : Nat → Nat
  | 0 => 0
  | n + 1 => SM f n + f n
theorem SM_b {f : Nat → Nat} {c : Nat} (h : ∀ j, f j ≤ c) : ∀ n, SM f n ≤ c * n := by
  intro n
  induction n with
  | zero => exact Nat.zero_le _
  | succ n ih =>
    have := h n
    show SM f n + f n ≤ c * (n + 1)
    rw [Nat.mul_succ]
    omega
theorem SM_ext {f : Nat → Nat} {a : Nat} (h : ∀ j, a ≤ j → f j = 0) : ∀ n, a ≤ n → SM f n = SM f a := by
  intro n
  induction n with
  | zero =>
    intro ha
    have : a = 0 := by omega
    subst this
    rfl
  | succ n ih =>
    intro ha
    by_cases q : a = n + 1
    · rw [q]
    · show SM f n + f n = SM f a
      rw [ih (by omega), h n (by omega)]
      rfl
/-- the shares o of 1 .. E, as the array F holds them -/
def SH (E : Nat) (o : Nat → Nat) (F : Nat → Int32) : Prop := (∀ j, j < 42 → F j = nI (o j)) ∧ (∀ j, o j ≤ 9) ∧ o 0 = 0 ∧ ∀ j, E < j → o j = 0
theorem total_c {E : Nat} {o : Nat → Nat} {F : Nat → Int32} (h : SH E o F) {K : Int32 → Prop} (hK : K (nI (SM o 42))) : g_X2_total F K := by
  unfold g_X2_total
  refine ⟨fun n s i => ∃ j, j ≤ 42 ∧ n = 43 - j ∧ s = nI (SM o j) ∧ i = nI j, ⟨43, 0, by omega, rfl, rfl, rfl⟩, ?_, ?_⟩
  · rintro s i ⟨j, h, h', -⟩
    omega
  · rintro n s i ⟨j, hj, hn, rfl, rfl⟩
    refine ⟨fun c => ?_, fun c => ?_⟩
    · have c := (nI_leI (a := 42) (by omega) (by omega)).mp c
      have : j = 42 := by omega
      subst this
      exact hK
    · have c : ¬ 42 ≤ j := fun z => c ((nI_leI (a := 42) (by omega) (by omega)).mpr z)
      refine ⟨vp_in_nI (by omega) (by omega), j + 1, by omega, by omega, ?_, nI_1 _⟩
      rw [nI_clamp (by omega), h.1 j (by omega), nI_add]
      rfl
theorem planShares_m {mkd mrt mri mca mpr mth mrq mos : Int32} {mtr : Int64} {E : Nat} (hE : E ≤ 40) {o : Nat → Nat} {F : Nat → Int32} (h : SH (E + 1) o F) {K : Int64 → Prop} (hK : K (lN (SM o (E + 2)))) : g_X7_planShares mkd mrt mri mca mpr (nI E) mth mrq mtr mos F K := by
  unfold g_X7_planShares
  refine ⟨fun n s i => ∃ j, j ≤ E + 1 ∧ n = E + 2 - j ∧ s = lN (SM o (j + 1)) ∧ i = nI (j + 1), ⟨E + 2, 0, by omega, rfl, ?_, rfl⟩, ?_, ?_⟩
  · show (0 : Int64) = lN (0 + o 0)
    rw [h.2.2.1]; rfl
  · rintro s i ⟨j, h, h', -⟩
    omega
  · rintro n s i ⟨j, hj, hn, rfl, rfl⟩
    rw [nI_1]
    refine ⟨fun c => ?_, fun c => ?_⟩
    · have c := (nI_ltI (by omega) (by omega)).mp c
      have : j = E + 1 := by omega
      subst this
      exact hK
    · have c : ¬ E + 1 < j + 1 := fun z => c ((nI_ltI (by omega) (by omega)).mpr z)
      have := h.2.1 (j + 1)
      refine ⟨vp_in_nI (by omega) (by omega), j + 1, by omega, by omega, ?_, nI_1 _⟩
      rw [nI_clamp (by omega), h.1 (j + 1) (by omega), nI_l (by omega), lN_add]
      rfl
/-- what plans with shares o cost by e -/
def wgt (rs : Nat → Nat) (pr : Nat) (o : Nat → Nat) (e : Nat) : Nat → Nat := SM (fun p => o p * cst rs pr p e)
theorem cst_a {rs : Nat → Nat} {pr p e : Nat} (h : RB rs pr) (hp : p ≤ 41) (he : e ≤ 40) : cst rs pr p e ≤ 33700 := by
  obtain ⟨q1, q2, q3, q4, -⟩ := h
  unfold cst
  split
  · have := q1 (p - 1) (by omega); omega
  · have := q1 e he; omega
theorem wgt_b {rs : Nat → Nat} {pr e : Nat} {o : Nat → Nat} (h : RB rs pr) (ho : ∀ j, o j ≤ 9) (he : e ≤ 40) : ∀ n, n ≤ 42 → wgt rs pr o e n ≤ 303300 * n := by
  intro n
  induction n with
  | zero => intro _; exact Nat.zero_le _
  | succ n ih =>
    intro hn
    have h1 := ih (by omega)
    have h2 : o n * cst rs pr n e ≤ 9 * 33700 := Nat.mul_le_mul (ho n) (cst_a h (by omega) he)
    show wgt rs pr o e n + o n * cst rs pr n e ≤ 303300 * (n + 1)
    omega
theorem costsBy_c {tkd tkp tkr tkc : Int32} {tkk : Nat} {rsF opF : Nat → Int32} {rs : Nat → Nat} {pr E : Nat} (hE : E ≤ 40) (hb : RB rs pr) (hc : CR rs pr rsF tkp) {o : Nat → Nat} (h : SH (E + 1) o opF) {e : Nat} (he : e ≤ 40) {K : Int64 → Prop} (hK : K (lN (wgt rs pr o e (E + 2)))) : g_X2_costsBy (nI E) tkk tkd tkp tkr tkc rsF opF (nI e) K := by
  unfold g_X2_costsBy
  refine ⟨fun n s i => ∃ j, j ≤ E + 1 ∧ n = E + 2 - j ∧ s = lN (wgt rs pr o e (j + 1)) ∧ i = nI (j + 1), ⟨E + 2, 0, by omega, rfl, ?_, rfl⟩, ?_, ?_⟩
  · show (0 : Int64) = lN (0 + o 0 * _)
    rw [h.2.2.1, Nat.zero_mul]; rfl
  · rintro s i ⟨j, h, h', -⟩
    omega
  · rintro n s i ⟨j, hj, hn, rfl, rfl⟩
    rw [nI_1]
    refine ⟨fun c => ?_, fun c => ?_⟩
    · have c := (nI_ltI (by omega) (by omega)).mp c
      have : j = E + 1 := by omega
      subst this
      exact hK
    · have c : ¬ E + 1 < j + 1 := fun z => c ((nI_ltI (by omega) (by omega)).mpr z)
      have := h.2.1 (j + 1)
      have h3 := cst_a hb (p := j + 1) (e := e) (by omega) he
      refine ⟨vp_in_nI (by omega) (by omega), costOf_c hb hc (by omega) (by omega) he ⟨j + 1, by omega, by omega, ?_, nI_1 _⟩⟩
      rw [nI_clamp (by omega), h.1 (j + 1) (by omega), nI_l (by omega), nI_l (by omega), lN_mul, lN_add]
      rfl
theorem weighed_m {mkd mrt mri mca mpr mth mrq mos : Int32} {mtr : Int64} {k dr ri ca pr E : Nat} (hE : E ≤ 40) (ho : OF k dr ri ca pr) (hm : MO k dr ri ca pr mkd mrt mri mca mpr) {o : Nat → Nat} {F : Nat → Int32} (h : SH (E + 1) o F) {e : Nat} (he : e ≤ 40) {K : Int64 → Prop} (hK : K (lN (wgt (RS k dr ri ca) pr o e (E + 2)))) : g_X7_weighed mkd mrt mri mca mpr (nI E) mth mrq mtr mos F (nI e) K := by
  have hb := ho.rb
  unfold g_X7_weighed
  refine ⟨fun n s i => ∃ j, j ≤ E + 1 ∧ n = E + 2 - j ∧ s = lN (wgt (RS k dr ri ca) pr o e (j + 1)) ∧ i = nI (j + 1), ⟨E + 2, 0, by omega, rfl, ?_, rfl⟩, ?_, ?_⟩
  · show (0 : Int64) = lN (0 + o 0 * _)
    rw [h.2.2.1, Nat.zero_mul]; rfl
  · rintro s i ⟨j, h, h', -⟩
    omega
  · rintro n s i ⟨j, hj, hn, rfl, rfl⟩
    rw [nI_1]
    refine ⟨fun c => ?_, fun c => ?_⟩
    · have c := (nI_ltI (by omega) (by omega)).mp c
      have : j = E + 1 := by omega
      subst this
      exact hK
    · have c : ¬ E + 1 < j + 1 := fun z => c ((nI_ltI (by omega) (by omega)).mpr z)
      have := h.2.1 (j + 1)
      have h3 := cst_a hb (p := j + 1) (e := e) (by omega) he
      refine ⟨vp_in_nI (by omega) (by omega), costOf_m ho hm (by omega) (by omega) he ⟨j + 1, by omega, by omega, ?_, nI_1 _⟩⟩
      rw [nI_clamp (by omega), h.1 (j + 1) (by omega), nI_l (by omega), nI_l (by omega), lN_mul, lN_add]
      rfl
/-! ===== mean ===== -/
def meaS (rs : Nat → Nat) (pr E : Nat) (o : Nat → Nat) (p1 p2 : Int32) : Int64 := if vEn E p1 ∧ vPa p2 then (if SM o (E + 2) = 0 then -2 else lN (lf (wgt rs pr o p1.toNatClampNeg (E + 2)) (knw rs pr p1.toNatClampNeg * SM o (E + 2)) p2)) else -1
theorem SH.tot {E : Nat} {o : Nat → Nat} {F : Nat → Int32} (h : SH E o F) (hE : E ≤ 41) : SM o 42 = SM o (E + 1) := SM_ext (fun j hj => h.2.2.2 j (by omega)) 42 (by omega)
theorem SH.tob {E : Nat} {o : Nat → Nat} {F : Nat → Int32} (h : SH E o F) (n : Nat) : SM o n ≤ 9 * n := SM_b h.2.1 n
theorem kt_b {a b : Nat} (ha : a ≤ 500) (hb : b ≤ 378) : a * b ≤ 189000 := Nat.le_trans (Nat.mul_le_mul ha hb) (by omega)
theorem mean_c {trc : Int64} {tkd tkp tkr tkc : Int32} {tkk : Nat} {rsF opF : Nat → Int32} {rs : Nat → Nat} {pr E : Nat} (hE : E ≤ 40) (hb : RB rs pr) (hc : CR rs pr rsF tkp) {o : Nat → Nat} (h : SH (E + 1) o opF) {p1 p2 : Int32} {K : Int64 → Prop} (hK : K (meaS rs pr E o p1 p2)) : g_X6_mean trc (nI E) tkk tkd tkp tkr tkc rsF opF p1 p2 K := by
  unfold meaS at hK
  unfold g_X6_mean
  have ht : SM o 42 = SM o (E + 2) := h.tot (by omega)
  have hb2 := h.tob (E + 2)
  refine isEnd_c (fun h1 => yes1 (in_c (fun h2 => yes1' (total_c h ?_)) (fun h2 => no0' ?_))) (fun h1 => no0 ?_)
  · rw [if_pos ⟨h1, h2⟩] at hK
    rw [ht]
    refine ⟨fun z => ?_, fun z => ?_⟩
    · have z : ¬ SM o (E + 2) = 0 := fun y => z (by show nI (SM o (E + 2)) = 0; rw [y]; rfl)
      rw [if_neg z] at hK
      obtain ⟨e, e1, e2, rfl⟩ := vEn_of hE h1
      rw [nI_clamp (by omega)] at hK
      have hk := knw_b hb e1 (show e ≤ 40 by omega)
      have hw := wgt_b hb h.2.1 (show e ≤ 40 by omega) (E + 2) (by omega)
      have hkt := kt_b hk.2 (show SM o (E + 2) ≤ 378 by omega)
      have hp : 0 < knw rs pr e * SM o (E + 2) := Nat.mul_pos (by omega) (by omega)
      refine costsBy_c hE hb hc h (by omega) (knownBy_c hb hc (by omega) ?_)
      rw [nI_l (by omega), nI_l (by omega), lN_mul]
      exact leastForm_c (by omega) (by omega) hp hK
    · have z : SM o (E + 2) = 0 := (nI_eq (b := 0) (by omega) (by omega)).mp z
      rw [if_pos z] at hK; exact hK
  · rw [if_neg (fun z => h2 z.2)] at hK; exact hK
  · rw [if_neg (fun z => h1 z.1)] at hK; exact hK
theorem mean_m {mkd mrt mri mca mpr mth mrq mos : Int32} {mtr : Int64} {k dr ri ca pr E : Nat} (hE : E ≤ 40) (ho : OF k dr ri ca pr) (hm : MO k dr ri ca pr mkd mrt mri mca mpr) {o : Nat → Nat} {F : Nat → Int32} (h : SH (E + 1) o F) {p1 p2 : Int32} {K : Int64 → Prop} (hK : K (meaS (RS k dr ri ca) pr E o p1 p2)) : g_X7_mean mkd mrt mri mca mpr (nI E) mth mrq mtr mos F p1 p2 K := by
  have hb := ho.rb
  unfold meaS at hK
  unfold g_X7_mean
  have hb2 := h.tob (E + 2)
  refine isEnd_m (fun h1 => yes1 (in_m (fun h2 => yes1' (planShares_m hE h ?_)) (fun h2 => no0' ?_))) (fun h1 => no0 ?_)
  · rw [if_pos ⟨h1, h2⟩] at hK
    rw [lg_cmp_eq, show (0 : Int64) = lN 0 from rfl, pk_lEQ (by omega) (by omega)]
    refine ⟨fun z => ?_, fun z => ?_⟩
    · rw [if_neg z] at hK
      obtain ⟨e, e1, e2, rfl⟩ := vEn_of hE h1
      rw [nI_clamp (by omega)] at hK
      have hk := knw_b hb e1 (show e ≤ 40 by omega)
      have hw := wgt_b hb h.2.1 (show e ≤ 40 by omega) (E + 2) (by omega)
      have hkt := kt_b hk.2 (show SM o (E + 2) ≤ 378 by omega)
      have hp : 0 < knw (RS k dr ri ca) pr e * SM o (E + 2) := Nat.mul_pos (by omega) (by omega)
      refine weighed_m hE ho hm h (by omega) (knownBy_m ho hm (by omega) ?_)
      rw [nI_l (by omega), lN_mul, Nat.mul_comm (SM o (E + 2))]
      refine common_m (by omega) (by omega) ?_
      have hg : 0 < Nat.gcd (wgt (RS k dr ri ca) pr o e (E + 2)) (knw (RS k dr ri ca) pr e * SM o (E + 2)) := Nat.gcd_pos_of_pos_right _ hp
      have hg2 := Nat.gcd_le_right (wgt (RS k dr ri ca) pr o e (E + 2)) hp
      unfold lf at hK
      rw [pk_lDiv (by omega) hg (by omega), pk_lDiv (by omega) hg (by omega), pk_lEQ (by omega) (by omega)]
      refine ⟨fun y => ⟨by omega, ?_⟩, fun y => ⟨by omega, ?_⟩⟩
      · rw [if_neg y] at hK; exact hK
      · rw [if_pos y] at hK; exact hK
    · rw [if_pos z] at hK; exact hK
  · rw [if_neg (fun z => h2 z.2)] at hK; exact hK
  · rw [if_neg (fun z => h1 z.1)] at hK; exact hK
