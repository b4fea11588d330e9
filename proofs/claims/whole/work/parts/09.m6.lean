/-! ===== bounds ===== -/
/-- the greatest of f 1 .. f j -/
def mxE (f : Nat → Nat) : Nat → Nat
  | 0 => 0
  | j + 1 => if f (j + 1) < mxE f j then mxE f j else f (j + 1)
/-- the least of f 1 .. f (j + 1) -/
def mnP (f : Nat → Nat) : Nat → Nat
  | 0 => f 1
  | j + 1 => if f (j + 2) < mnP f j then f (j + 2) else mnP f j
theorem mxE_b {f : Nat → Nat} {c E : Nat} (h : ∀ j, 1 ≤ j → j ≤ E → f j ≤ c) : ∀ j, j ≤ E → mxE f j ≤ c := by
  intro j
  induction j with
  | zero => intro _; exact Nat.zero_le _
  | succ j ih =>
    intro hj
    have h1 := ih (by omega)
    have h2 := h (j + 1) (by omega) hj
    unfold mxE
    split <;> omega
theorem mnP_b {f : Nat → Nat} {c E : Nat} (h : ∀ j, 1 ≤ j → j ≤ E + 1 → f j ≤ c) : ∀ j, j ≤ E → mnP f j ≤ c := by
  intro j
  induction j with
  | zero => intro _; exact h 1 (by omega) (by omega)
  | succ j ih =>
    intro hj
    have h1 := ih (by omega)
    have h2 := h (j + 2) (by omega) (by omega)
    unfold mnP
    split <;> omega
/-- a mean in thousandths, rounded up -/
def upN (rs : Nat → Nat) (pr E : Nat) (o : Nat → Nat) (e : Nat) : Nat := (wgt rs pr o e (E + 2) * 1000 + knw rs pr e * SM o (E + 2) - 1) / (knw rs pr e * SM o (E + 2))
/-- a plan's ratios in millionths, weighed by the shares of ends 1 .. n - 1 -/
def mil (rs : Nat → Nat) (pr : Nat) (f : Nat → Nat) (p : Nat) : Nat → Nat := SM (fun e => f e * (cst rs pr p e * 1000000 / knw rs pr e))
theorem upN_b {rs : Nat → Nat} {pr E e : Nat} {o : Nat → Nat} (hb : RB rs pr) (ho : ∀ j, o j ≤ 9) (hE : E ≤ 40) (e1 : 1 ≤ e) (e2 : e ≤ E) (ht : SM o (E + 2) ≤ 378) : upN rs pr E o e ≤ 13000000000 := by
  have hw := wgt_b hb ho (show e ≤ 40 by omega) (E + 2) (by omega)
  have hk := knw_b hb e1 (show e ≤ 40 by omega)
  have hkt := kt_b hk.2 ht
  unfold upN
  refine Nat.le_trans (Nat.div_le_self _ _) ?_
  omega
theorem mil_t {rs : Nat → Nat} {pr p e : Nat} {f : Nat → Nat} (hb : RB rs pr) (hf : ∀ j, f j ≤ 9) (hp : p ≤ 41) (he : e ≤ 40) : f e * (cst rs pr p e * 1000000 / knw rs pr e) ≤ 303300000000 := by
  have h1 := cst_a hb hp he
  have h2 : cst rs pr p e * 1000000 / knw rs pr e ≤ 33700000000 := Nat.le_trans (Nat.div_le_self _ _) (by omega)
  exact Nat.le_trans (Nat.mul_le_mul (hf e) h2) (by omega)
theorem mil_b {rs : Nat → Nat} {pr p : Nat} {f : Nat → Nat} (hb : RB rs pr) (hf : ∀ j, f j ≤ 9) (hp : p ≤ 41) : ∀ n, n ≤ 41 → mil rs pr f p n ≤ 303300000000 * n := by
  intro n
  induction n with
  | zero => intro _; exact Nat.zero_le _
  | succ n ih =>
    intro hn
    have h1 := ih (by omega)
    have h2 := mil_t hb hf hp (show n ≤ 40 by omega)
    show mil rs pr f p n + f n * (cst rs pr p n * 1000000 / knw rs pr n) ≤ 303300000000 * (n + 1)
    omega
section C6
variable {trc : Int64} {tkd tkp tkr tkc : Int32} {tkk : Nat} {rsF opF oeF : Nat → Int32} {rs : Nat → Nat} {pr E : Nat}
theorem upperBound_c (hE : E ≤ 40) (hb : RB rs pr) (hc : CR rs pr rsF tkp) {o : Nat → Nat} (h : SH (E + 1) o opF) (h0 : 0 < SM o (E + 2)) {K : Int64 → Prop} (hK : K (lN (mxE (upN rs pr E o) E))) : g_X2_upperBound (nI E) tkk tkd tkp tkr tkc rsF opF (nI (SM o (E + 2))) K := by
  have hb2 := h.tob (E + 2)
  unfold g_X2_upperBound
  refine ⟨fun n s i => ∃ j, j ≤ E ∧ n = E + 1 - j ∧ s = lN (mxE (upN rs pr E o) j) ∧ i = nI (j + 1), ⟨E + 1, 0, by omega, rfl, rfl, rfl⟩, ?_, ?_⟩
  · rintro s i ⟨j, h, h', -⟩
    omega
  · rintro n s i ⟨j, hj, hn, rfl, rfl⟩
    refine ⟨fun c => ?_, fun c => ?_⟩
    · have c := (nI_ltI (by omega) (by omega)).mp c
      have : j = E := by omega
      subst this
      exact hK
    · have c : ¬ E < j + 1 := fun z => c ((nI_ltI (by omega) (by omega)).mpr z)
      have hw := wgt_b hb h.2.1 (show j + 1 ≤ 40 by omega) (E + 2) (by omega)
      have hk := knw_b hb (show 1 ≤ j + 1 by omega) (show j + 1 ≤ 40 by omega)
      have hkt := kt_b hk.2 (show SM o (E + 2) ≤ 378 by omega)
      have hp : 0 < knw rs pr (j + 1) * SM o (E + 2) := Nat.mul_pos (by omega) (by omega)
      have hm := mxE_b (f := upN rs pr E o) (c := 13000000000) (E := E) (fun e e1 e2 => upN_b hb h.2.1 hE e1 e2 (by omega)) j hj
      have hu := upN_b hb h.2.1 hE (show 1 ≤ j + 1 by omega) (show j + 1 ≤ E by omega) (show SM o (E + 2) ≤ 378 by omega)
      refine costsBy_c hE hb hc h (by omega) (knownBy_c hb hc (by omega) ?_)
      rw [nI_l (by omega), nI_l (by omega), lN_mul, show (1000 : Int64) = lN 1000 from rfl, lN_mul]
      refine roundedUp_c (by omega) (by omega) hp ⟨j + 1, by omega, by omega, ?_, nI_1 _⟩
      show (if lN (upN rs pr E o (j + 1)) < lN (mxE (upN rs pr E o) j) then lN (mxE (upN rs pr E o) j) else lN (upN rs pr E o (j + 1))) = lN (if upN rs pr E o (j + 1) < mxE (upN rs pr E o) j then mxE (upN rs pr E o) j else upN rs pr E o (j + 1))
      by_cases z : upN rs pr E o (j + 1) < mxE (upN rs pr E o) j
      · rw [if_pos z, if_pos ((pk_lLT (by omega) (by omega)).mpr z)]
      · rw [if_neg z, if_neg (fun y => z ((pk_lLT (by omega) (by omega)).mp y))]
theorem millionthsOf_c (hE : E ≤ 40) (hb : RB rs pr) (hc : CR rs pr rsF tkp) {f : Nat → Nat} (h : SH E f oeF) {p : Nat} (p1 : 1 ≤ p) (p2 : p ≤ 41) {K : Int64 → Prop} (hK : K (lN (mil rs pr f p (E + 1)))) : g_X2_millionthsOf (nI E) tkk tkd tkp tkr tkc rsF oeF (nI p) K := by
  unfold g_X2_millionthsOf
  refine ⟨fun n s i => ∃ j, j ≤ E ∧ n = E + 1 - j ∧ s = lN (mil rs pr f p (j + 1)) ∧ i = nI (j + 1), ⟨E + 1, 0, by omega, rfl, ?_, rfl⟩, ?_, ?_⟩
  · show (0 : Int64) = lN (0 + f 0 * _)
    rw [h.2.2.1, Nat.zero_mul]; rfl
  · rintro s i ⟨j, h, h', -⟩
    omega
  · rintro n s i ⟨j, hj, hn, rfl, rfl⟩
    refine ⟨fun c => ?_, fun c => ?_⟩
    · have c := (nI_ltI (by omega) (by omega)).mp c
      have : j = E := by omega
      subst this
      exact hK
    · have c : ¬ E < j + 1 := fun z => c ((nI_ltI (by omega) (by omega)).mpr z)
      have := h.2.1 (j + 1)
      have h3 := cst_a hb (p := p) (e := j + 1) p2 (by omega)
      have hk := knw_b hb (show 1 ≤ j + 1 by omega) (show j + 1 ≤ 40 by omega)
      refine ⟨vp_in_nI (by omega) (by omega), costOf_c hb hc p1 p2 (by omega) (knownBy_c hb hc (by omega) ?_)⟩
      rw [nI_l (by omega), nI_l (by omega), show (1000000 : Int64) = lN 1000000 from rfl, lN_mul]
      refine roundedDown_c (by omega) (by omega) (by omega) ⟨j + 1, by omega, by omega, ?_, nI_1 _⟩
      rw [nI_clamp (by omega), h.1 (j + 1) (by omega), nI_l (by omega), lN_mul, lN_add]
      rfl
theorem lowerBound_c (hE1 : 1 ≤ E) (hE : E ≤ 40) (hb : RB rs pr) (hc : CR rs pr rsF tkp) {f : Nat → Nat} (h : SH E f oeF) (h0 : 0 < SM f (E + 1)) {K : Int64 → Prop} (hK : K (lN (mnP (fun p => mil rs pr f p (E + 1)) E / (SM f (E + 1) * 1000)))) : g_X2_lowerBound (nI E) tkk tkd tkp tkr tkc rsF oeF (nI (SM f (E + 1))) K := by
  have hb2 := h.tob (E + 1)
  have hq := mnP_b (f := fun p => mil rs pr f p (E + 1)) (c := 303300000000 * 41) (E := E) (fun p p1 p2 => Nat.le_trans (mil_b hb h.2.1 (by omega) (E + 1) (by omega)) (by omega))
  unfold g_X2_lowerBound
  refine millionthsOf_c (p := 1) hE hb hc h (by omega) (by omega) ?_
  refine ⟨fun n s i => ∃ j, j ≤ E ∧ n = E + 1 - j ∧ s = lN (mnP (fun p => mil rs pr f p (E + 1)) j) ∧ i = nI (j + 2), ⟨E + 1, 0, by omega, rfl, rfl, rfl⟩, ?_, ?_⟩
  · rintro s i ⟨j, h, h', -⟩
    omega
  · rintro n s i ⟨j, hj, hn, rfl, rfl⟩
    have hm := hq j hj
    rw [nI_1]
    refine ⟨fun c => ?_, fun c => ?_⟩
    · have c := (nI_ltI (by omega) (by omega)).mp c
      have : j = E := by omega
      subst this
      rw [nI_l (by omega), show (1000 : Int64) = lN 1000 from rfl, lN_mul]
      exact roundedDown_c (by omega) (by omega) (by omega) hK
    · have c : ¬ E + 1 < j + 2 := fun z => c ((nI_ltI (by omega) (by omega)).mpr z)
      have hv := mil_b hb h.2.1 (show j + 2 ≤ 41 by omega) (E + 1) (by omega)
      refine millionthsOf_c hE hb hc h (by omega) (by omega) ⟨j + 1, by omega, by omega, ?_, nI_1 _⟩
      show (if lN (mil rs pr f (j + 2) (E + 1)) < lN (mnP (fun p => mil rs pr f p (E + 1)) j) then lN (mil rs pr f (j + 2) (E + 1)) else lN (mnP (fun p => mil rs pr f p (E + 1)) j)) = lN (if mil rs pr f (j + 2) (E + 1) < mnP (fun p => mil rs pr f p (E + 1)) j then mil rs pr f (j + 2) (E + 1) else mnP (fun p => mil rs pr f p (E + 1)) j)
      by_cases z : mil rs pr f (j + 2) (E + 1) < mnP (fun p => mil rs pr f p (E + 1)) j
      · rw [if_pos z, if_pos ((pk_lLT (by omega) (by omega)).mpr z)]
      · rw [if_neg z, if_neg (fun y => z ((pk_lLT (by omega) (by omega)).mp y))]
def bouS (rs : Nat → Nat) (pr E : Nat) (o f : Nat → Nat) (p1 : Int32) : Int32 := if vPa p1 then (if p1 = 0 then (if SM o (E + 2) = 0 then -2 else nI (mxE (upN rs pr E o) E)) else (if SM f (E + 1) = 0 then -2 else nI (mnP (fun p => mil rs pr f p (E + 1)) E / (SM f (E + 1) * 1000)))) else -1
theorem bound_c (hE1 : 1 ≤ E) (hE : E ≤ 40) (hb : RB rs pr) (hc : CR rs pr rsF tkp) {o f : Nat → Nat} (h : SH (E + 1) o opF) (h' : SH E f oeF) {p1 : Int32} {K : Int32 → Prop} (hK : K (bouS rs pr E o f p1)) : g_X6_bound trc (nI E) tkk tkd tkp tkr tkc rsF opF oeF p1 K := by
  unfold bouS at hK
  unfold g_X6_bound
  have ht : SM o 42 = SM o (E + 2) := h.tot (by omega)
  have ht' : SM f 42 = SM f (E + 1) := h'.tot (by omega)
  have hb2 := h.tob (E + 2)
  have hb3 := h'.tob (E + 1)
  refine in_c (fun h1 => yes1' ⟨fun z => total_c h' ?_, fun z => total_c h ?_⟩) (fun h1 => no0' ?_)
  · rw [if_pos h1, if_neg z] at hK
    rw [ht']
    refine ⟨fun y => ⟨fun _ => ?_, fun q => absurd q z⟩, fun y => ?_⟩
    · have y : ¬ SM f (E + 1) = 0 := fun x => y (by show nI (SM f (E + 1)) = 0; rw [x]; rfl)
      rw [if_neg y] at hK
      refine lowerBound_c hE1 hE hb hc h' (by omega) ?_
      rw [lN_i]; exact hK
    · have y : SM f (E + 1) = 0 := (nI_eq (b := 0) (by omega) (by omega)).mp y
      rw [if_pos y] at hK; exact hK
  · rw [if_pos h1, if_pos z] at hK
    rw [ht]
    refine ⟨fun y => ⟨fun q => absurd z q, fun _ => ?_⟩, fun y => ?_⟩
    · have y : ¬ SM o (E + 2) = 0 := fun x => y (by show nI (SM o (E + 2)) = 0; rw [x]; rfl)
      rw [if_neg y] at hK
      refine upperBound_c hE hb hc h (by omega) ?_
      rw [lN_i]; exact hK
    · have y : SM o (E + 2) = 0 := (nI_eq (b := 0) (by omega) (by omega)).mp y
      rw [if_pos y] at hK; exact hK
  · rw [if_neg h1] at hK; exact hK
end C6
section M6
variable {mkd mrt mri mca mpr mth mrq mos : Int32} {mtr : Int64} {k dr ri ca pr E : Nat} {mpF meF : Nat → Int32}
theorem upper_m (hE : E ≤ 40) (ho : OF k dr ri ca pr) (hm : MO k dr ri ca pr mkd mrt mri mca mpr) {o : Nat → Nat} (h : SH (E + 1) o mpF) {K : Int32 → Prop} (hK : K (if SM o (E + 2) = 0 then -2 else nI (mxE (upN (RS k dr ri ca) pr E o) E))) : g_X7_upper mkd mrt mri mca mpr (nI E) mth mrq mtr mos mpF K := by
  have hb := ho.rb
  have hb2 := h.tob (E + 2)
  unfold g_X7_upper
  refine planShares_m hE h ?_
  rw [lg_cmp_eq, show (0 : Int64) = lN 0 from rfl, pk_lEQ (by omega) (by omega)]
  refine ⟨fun z => ?_, fun z => ?_⟩
  · rw [if_neg z] at hK
    refine ⟨fun n s i => ∃ j, j ≤ E ∧ n = E + 1 - j ∧ s = lN (mxE (upN (RS k dr ri ca) pr E o) j) ∧ i = nI (j + 1), ⟨E + 1, 0, by omega, rfl, rfl, rfl⟩, ?_, ?_⟩
    · rintro s i ⟨j, h, h', -⟩
      omega
    · rintro n s i ⟨j, hj, hn, rfl, rfl⟩
      refine ⟨fun c => ?_, fun c => ?_⟩
      · have c := (nI_ltI (by omega) (by omega)).mp c
        have : j = E := by omega
        subst this
        rw [lN_i]
        exact hK
      · have c : ¬ E < j + 1 := fun z => c ((nI_ltI (by omega) (by omega)).mpr z)
        have hw := wgt_b hb h.2.1 (show j + 1 ≤ 40 by omega) (E + 2) (by omega)
        have hk := knw_b hb (show 1 ≤ j + 1 by omega) (show j + 1 ≤ 40 by omega)
        have hkt := kt_b hk.2 (show SM o (E + 2) ≤ 378 by omega)
        have hp : 0 < knw (RS k dr ri ca) pr (j + 1) * SM o (E + 2) := Nat.mul_pos (by omega) (by omega)
        have hx := mxE_b (f := upN (RS k dr ri ca) pr E o) (c := 13000000000) (E := E) (fun e e1 e2 => upN_b hb h.2.1 hE e1 e2 (by omega)) j hj
        have hu := upN_b hb h.2.1 hE (show 1 ≤ j + 1 by omega) (show j + 1 ≤ E by omega) (show SM o (E + 2) ≤ 378 by omega)
        refine knownBy_m ho hm (by omega) (weighed_m hE ho hm h (by omega) ?_)
        have e9 : ((lN 1000 * lN (wgt (RS k dr ri ca) pr o (j + 1) (E + 2)) + lN (knw (RS k dr ri ca) pr (j + 1) * SM o (E + 2))) - 1) / lN (knw (RS k dr ri ca) pr (j + 1) * SM o (E + 2)) = lN (upN (RS k dr ri ca) pr E o (j + 1)) := by
          rw [lN_mul, lN_add, show (lN (1000 * wgt (RS k dr ri ca) pr o (j + 1) (E + 2) + knw (RS k dr ri ca) pr (j + 1) * SM o (E + 2)) - 1 : Int64) = lN (1000 * wgt (RS k dr ri ca) pr o (j + 1) (E + 2) + knw (RS k dr ri ca) pr (j + 1) * SM o (E + 2) - 1) from lN_sub (b := 1) (by omega), pk_lDiv (by omega) hp (by omega), Nat.mul_comm 1000]
          rfl
        rw [nI_l (by omega), lN_mul, Nat.mul_comm (SM o (E + 2)), show (1000 : Int64) = lN 1000 from rfl, show (1 : Int64) = 1 from rfl, e9, pk_lEQ (by omega) (by omega)]
        refine ⟨by omega, fun v => v = lN (mxE (upN (RS k dr ri ca) pr E o) (j + 1)), ?_, ?_⟩
        · rintro v rfl
          exact ⟨j + 1, by omega, by omega, rfl, nI_1 _⟩
        · rw [lg_cmp_le, pk_lLE (by omega) (by omega)]
          refine ⟨fun y => ?_, fun y => ?_⟩
          · show lN (mxE (upN (RS k dr ri ca) pr E o) j) = lN (if upN (RS k dr ri ca) pr E o (j + 1) < mxE (upN (RS k dr ri ca) pr E o) j then mxE (upN (RS k dr ri ca) pr E o) j else upN (RS k dr ri ca) pr E o (j + 1))
            split
            · rfl
            · congr 1; omega
          · show lN (upN (RS k dr ri ca) pr E o (j + 1)) = lN (if upN (RS k dr ri ca) pr E o (j + 1) < mxE (upN (RS k dr ri ca) pr E o) j then mxE (upN (RS k dr ri ca) pr E o) j else upN (RS k dr ri ca) pr E o (j + 1))
            rw [if_neg (by omega)]
  · rw [if_pos z] at hK; exact hK
theorem lower_m (hE1 : 1 ≤ E) (hE : E ≤ 40) (ho : OF k dr ri ca pr) (hm : MO k dr ri ca pr mkd mrt mri mca mpr) {f : Nat → Nat} (h : SH E f meF) {K : Int32 → Prop} (hK : K (if SM f (E + 1) = 0 then -2 else nI (mnP (fun p => mil (RS k dr ri ca) pr f p (E + 1)) E / (SM f (E + 1) * 1000)))) : g_X7_lower mkd mrt mri mca mpr (nI E) mth mrq mtr mos meF K := by
  have hb := ho.rb
  have hb2 := h.tob (E + 1)
  have hq := mnP_b (f := fun p => mil (RS k dr ri ca) pr f p (E + 1)) (c := 303300000000 * 41) (E := E) (fun p p1 p2 => Nat.le_trans (mil_b hb h.2.1 (by omega) (E + 1) (by omega)) (by omega))
  unfold g_X7_lower
  refine ⟨fun n s i => ∃ j, j ≤ E ∧ n = E + 1 - j ∧ s = lN (SM f (j + 1)) ∧ i = nI (j + 1), ⟨E + 1, 0, by omega, rfl, ?_, rfl⟩, ?_, ?_⟩
  · show (0 : Int64) = lN (0 + f 0)
    rw [h.2.2.1]; rfl
  · rintro s i ⟨j, h, h', -⟩
    omega
  · rintro n s i ⟨j, hj, hn, rfl, rfl⟩
    refine ⟨fun c => ?_, fun c => ?_⟩
    · have c := (nI_ltI (by omega) (by omega)).mp c
      have : j = E := by omega
      subst this
      rw [lg_cmp_eq, show (0 : Int64) = lN 0 from rfl, pk_lEQ (by omega) (by omega)]
      refine ⟨fun z => ?_, fun z => ?_⟩
      · rw [if_neg z] at hK
        refine ⟨fun n s i => ∃ q, q ≤ j + 1 ∧ n = j + 2 - q ∧ (q = 0 ∧ s = -1 ∨ 1 ≤ q ∧ s = lN (mnP (fun p => mil (RS k dr ri ca) pr f p (j + 1)) (q - 1))) ∧ i = nI (q + 1), ⟨j + 2, 0, by omega, rfl, Or.inl ⟨rfl, rfl⟩, rfl⟩, ?_, ?_⟩
        · rintro s i ⟨q, h, h', -⟩
          omega
        · rintro n s i ⟨q, hq1, hn, hs, rfl⟩
          rw [nI_1, show (1000 : Int64) = lN 1000 from rfl, lN_mul, pk_lEQ (by omega) (by omega)]
          refine ⟨fun c => ?_, fun c => ?_⟩
          · have c := (nI_ltI (by omega) (by omega)).mp c
            have : q = j + 1 := by omega
            subst this
            rcases hs with ⟨y, -⟩ | ⟨-, rfl⟩
            · omega
            · have hx := hq j (by omega)
              refine ⟨by omega, ?_⟩
              show K (lN (mnP (fun p => mil (RS k dr ri ca) pr f p (j + 1)) j) / lN (1000 * SM f (j + 1))).toInt32
              rw [pk_lDiv (by omega) (by omega) (by omega), lN_i, Nat.mul_comm 1000]
              exact hK
          · have c : ¬ j + 1 < q + 1 := fun z => c ((nI_ltI (by omega) (by omega)).mpr z)
            refine ⟨fun n2 s2 i2 => ∃ e, e ≤ j ∧ n2 = j + 1 - e ∧ s2 = lN (mil (RS k dr ri ca) pr f (q + 1) (e + 1)) ∧ i2 = nI (e + 1), ⟨j + 1, 0, by omega, rfl, ?_, rfl⟩, ?_, ?_⟩
            · show (0 : Int64) = lN (0 + f 0 * _)
              rw [h.2.2.1, Nat.zero_mul]; rfl
            · rintro s2 i2 ⟨e, h, h', -⟩
              omega
            · rintro n2 s2 i2 ⟨e, he, hn2, rfl, rfl⟩
              refine ⟨fun c2 => ?_, fun c2 => ?_⟩
              · have c2 := (nI_ltI (by omega) (by omega)).mp c2
                have : e = j := by omega
                subst this
                have hv := mil_b hb h.2.1 (show q + 1 ≤ 41 by omega) (e + 1) (by omega)
                refine ⟨fun v => v = lN (mnP (fun p => mil (RS k dr ri ca) pr f p (e + 1)) q), ?_, lN (mil (RS k dr ri ca) pr f (q + 1) (e + 1)) = lN (mnP (fun p => mil (RS k dr ri ca) pr f p (e + 1)) q), fun y => y, ?_⟩
                · rintro v rfl
                  exact ⟨q + 1, by omega, by omega, Or.inr ⟨by omega, rfl⟩, nI_1 _⟩
                · rw [lg_cmp_lt, lg_cmp_ge]
                  rcases hs with ⟨y, rfl⟩ | ⟨y, rfl⟩
                  · subst y
                    exact ⟨fun _ => rfl, fun w => absurd (by decide) w⟩
                  · have hx := hq (q - 1) (by omega)
                    obtain ⟨r, rfl⟩ : ∃ r, q = r + 1 := ⟨q - 1, by omega⟩
                    have hx : mnP (fun p => mil (RS k dr ri ca) pr f p (e + 1)) r ≤ 303300000000 * 41 := hx
                    have hv : mil (RS k dr ri ca) pr f (r + 2) (e + 1) ≤ 303300000000 * (e + 1) := hv
                    refine ⟨fun w => absurd w (by rw [pk_lLT (by omega) (by omega)]; omega), fun w => ⟨fun t => ?_, fun t => ?_⟩⟩
                    · have t : mnP (fun p => mil (RS k dr ri ca) pr f p (e + 1)) r ≤ mil (RS k dr ri ca) pr f (r + 2) (e + 1) := (pk_lLE (by omega) (by omega)).mp t
                      show lN (mnP (fun p => mil (RS k dr ri ca) pr f p (e + 1)) r) = lN (if mil (RS k dr ri ca) pr f (r + 2) (e + 1) < mnP (fun p => mil (RS k dr ri ca) pr f p (e + 1)) r then mil (RS k dr ri ca) pr f (r + 2) (e + 1) else mnP (fun p => mil (RS k dr ri ca) pr f p (e + 1)) r)
                      rw [if_neg (Nat.not_lt.mpr t)]
                    · have t : ¬ mnP (fun p => mil (RS k dr ri ca) pr f p (e + 1)) r ≤ mil (RS k dr ri ca) pr f (r + 2) (e + 1) := fun u => t ((pk_lLE (by omega) (by omega)).mpr u)
                      show lN (mil (RS k dr ri ca) pr f (r + 2) (e + 1)) = lN (if mil (RS k dr ri ca) pr f (r + 2) (e + 1) < mnP (fun p => mil (RS k dr ri ca) pr f p (e + 1)) r then mil (RS k dr ri ca) pr f (r + 2) (e + 1) else mnP (fun p => mil (RS k dr ri ca) pr f p (e + 1)) r)
                      rw [if_pos (by omega)]
              · have c2 : ¬ j < e + 1 := fun z => c2 ((nI_ltI (by omega) (by omega)).mpr z)
                have := h.2.1 (e + 1)
                have h3 := cst_a hb (p := q + 1) (e := e + 1) (by omega) (by omega)
                have hk := knw_b hb (show 1 ≤ e + 1 by omega) (show e + 1 ≤ 40 by omega)
                refine ⟨vp_in_nI (by omega) (by omega), costOf_m ho hm (by omega) (by omega) (by omega) (knownBy_m ho hm (by omega) ?_)⟩
                rw [nI_l (by omega), nI_l (by omega), show (1000000 : Int64) = lN 1000000 from rfl, lN_mul, pk_lDiv (by omega) (by omega) (by omega), pk_lEQ (by omega) (by omega)]
                refine ⟨by omega, e + 1, by omega, by omega, ?_, nI_1 _⟩
                rw [nI_clamp (by omega), h.1 (e + 1) (by omega), nI_l (by omega), lN_mul, lN_add, Nat.mul_comm 1000000]
                rfl
      · rw [if_pos z] at hK; exact hK
    · have c : ¬ E < j + 1 := fun z => c ((nI_ltI (by omega) (by omega)).mpr z)
      have := h.2.1 (j + 1)
      refine ⟨vp_in_nI (by omega) (by omega), j + 1, by omega, by omega, ?_, nI_1 _⟩
      rw [nI_clamp (by omega), h.1 (j + 1) (by omega), nI_l (by omega), lN_add]
      rfl
theorem bound_m (hE1 : 1 ≤ E) (hE : E ≤ 40) (ho : OF k dr ri ca pr) (hm : MO k dr ri ca pr mkd mrt mri mca mpr) {o f : Nat → Nat} (h : SH (E + 1) o mpF) (h' : SH E f meF) {p1 : Int32} {K : Int32 → Prop} (hK : K (bouS (RS k dr ri ca) pr E o f p1)) : g_X7_bound mkd mrt mri mca mpr (nI E) mth mrq mtr mos mpF meF p1 K := by
  unfold bouS at hK
  unfold g_X7_bound
  refine in_m (fun h1 => yes1' ⟨fun z => lower_m hE1 hE ho hm h' ?_, fun z => upper_m hE ho hm h ?_⟩) (fun h1 => no0' ?_)
  · rw [if_pos h1, if_neg z] at hK; exact hK
  · rw [if_pos h1, if_pos z] at hK; exact hK
  · rw [if_neg h1] at hK; exact hK
end M6
