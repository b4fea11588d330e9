/-! ===== numbers ===== -/
theorem i_nlt {x y : Int32} : ¬ x < y ↔ y ≤ x := by rw [Int32.lt_iff_toInt_lt, Int32.le_iff_toInt_le]; omega
theorem i_nle {x y : Int32} : ¬ x ≤ y ↔ y < x := by rw [Int32.lt_iff_toInt_lt, Int32.le_iff_toInt_le]; omega
theorem l_nlt {x y : Int64} : ¬ x < y ↔ y ≤ x := by rw [Int64.lt_iff_toInt_lt, Int64.le_iff_toInt_le]; omega
theorem l_nle {x y : Int64} : ¬ x ≤ y ↔ y < x := by rw [Int64.lt_iff_toInt_lt, Int64.le_iff_toInt_le]; omega
theorem rng {p : Int32} {a b : Nat} (ha : a < 2 ^ 31) (hb : b < 2 ^ 31) (h1 : nI a ≤ p) (h2 : p ≤ nI b) : ∃ d, a ≤ d ∧ d ≤ b ∧ p = nI d := by
  have h0 : ¬ p < 0 := by
    intro h
    rw [Int32.lt_iff_toInt_lt] at h
    rw [Int32.le_iff_toInt_le, nI_toInt ha] at h1
    have e : (0 : Int32).toInt = 0 := rfl
    omega
  obtain ⟨j, hj, rfl⟩ := nI_of h0
  exact ⟨j, (nI_leI ha hj).mp h1, (nI_leI hj hb).mp h2, rfl⟩
theorem in_c {p a b : Int32} {K : Int32 → Prop} (h1 : a ≤ p ∧ p ≤ b → K 1) (h0 : ¬ (a ≤ p ∧ p ≤ b) → K 0) : g_X6_isWithin p a b K := by
  unfold g_X6_isWithin
  refine ⟨fun c => h0 (fun q => i_nlt.mpr q.1 c), fun c => ⟨fun c2 => h0 (fun q => i_nlt.mpr q.2 c2), fun c2 => h1 ⟨i_nlt.mp c, i_nlt.mp c2⟩⟩⟩
theorem in_m {p a b : Int32} {K : Int32 → Prop} (h1 : a ≤ p ∧ p ≤ b → K 1) (h0 : ¬ (a ≤ p ∧ p ≤ b) → K 0) : g_X7_in p a b K := by
  unfold g_X7_in
  refine ⟨fun c => h0 (fun q => i_nlt.mpr q.1 c), fun c => ⟨fun c2 => h0 (fun q => i_nlt.mpr q.2 c2), fun c2 => h1 ⟨i_nlt.mp c, i_nlt.mp c2⟩⟩⟩
/-- a plan, an end of E days -/
abbrev vPl (E : Nat) (p : Int32) : Prop := (1 : Int32) ≤ p ∧ p ≤ nI (E + 1)
abbrev vEn (E : Nat) (p : Int32) : Prop := (1 : Int32) ≤ p ∧ p ≤ nI E
theorem vPl_of {E : Nat} {p : Int32} (hE : E ≤ 40) (h : vPl E p) : ∃ d, 1 ≤ d ∧ d ≤ E + 1 ∧ p = nI d := rng (a := 1) (b := E + 1) (by omega) (by omega) h.1 h.2
theorem vEn_of {E : Nat} {p : Int32} (hE : E ≤ 40) (h : vEn E p) : ∃ d, 1 ≤ d ∧ d ≤ E ∧ p = nI d := rng (a := 1) (b := E) (by omega) (by omega) h.1 h.2
theorem isPlan_c {E : Nat} {p : Int32} {K : Int32 → Prop} (h1 : vPl E p → K 1) (h0 : ¬ vPl E p → K 0) : g_X3_isPlan (nI E) p K := by
  unfold g_X3_isPlan
  rw [nI_1]
  exact in_c (fun h => ⟨Or.inr rfl, h1 h⟩) (fun h => ⟨Or.inl rfl, h0 h⟩)
theorem isEnd_c {E : Nat} {p : Int32} {K : Int32 → Prop} (h1 : vEn E p → K 1) (h0 : ¬ vEn E p → K 0) : g_X3_isEnd (nI E) p K := by
  unfold g_X3_isEnd
  exact in_c (fun h => ⟨Or.inr rfl, h1 h⟩) (fun h => ⟨Or.inl rfl, h0 h⟩)
section MM
variable {mkd mrt mri mca mpr mth mrq mos : Int32} {mtr : Int64}
theorem isPlan_m {E : Nat} {p : Int32} {K : Int32 → Prop} (h1 : vPl E p → K 1) (h0 : ¬ vPl E p → K 0) : g_X7_isPlan mkd mrt mri mca mpr (nI E) mth mrq mtr mos p K := by
  unfold g_X7_isPlan
  rw [nI_1]
  exact in_m (fun h => ⟨Or.inr rfl, h1 h⟩) (fun h => ⟨Or.inl rfl, h0 h⟩)
theorem isEnd_m {E : Nat} {p : Int32} {K : Int32 → Prop} (h1 : vEn E p → K 1) (h0 : ¬ vEn E p → K 0) : g_X7_isEnd mkd mrt mri mca mpr (nI E) mth mrq mtr mos p K := by
  unfold g_X7_isEnd
  exact in_m (fun h => ⟨Or.inr rfl, h1 h⟩) (fun h => ⟨Or.inl rfl, h0 h⟩)
end MM
theorem one0 : ¬ (1 : Int32) = 0 := by decide
/-! ===== rents ===== -/
def rN (k dr ri ca d : Nat) : Nat := if k = 0 then dr else if k = 1 then dr + ri * (d - 1) else if ca < dr + ri * (d - 1) then ca else dr + ri * (d - 1)
def RS (k dr ri ca : Nat) : Nat → Nat
  | 0 => 0
  | j + 1 => RS k dr ri ca j + rN k dr ri ca (j + 1)
/-- an offer's numbers -/
def OF (k dr ri ca pr : Nat) : Prop := k ≤ 2 ∧ 1 ≤ dr ∧ dr ≤ 50 ∧ ri ≤ 20 ∧ 1 ≤ ca ∧ ca ≤ 200 ∧ 1 ≤ pr ∧ pr ≤ 500
theorem mul_le20 {ri x : Nat} (h : ri ≤ 20) (hx : x ≤ 39) : ri * x ≤ 780 := Nat.le_trans (Nat.mul_le_mul h hx) (by omega)
theorem rN_b {k dr ri ca pr d : Nat} (h : OF k dr ri ca pr) (hd : d ≤ 40) : 1 ≤ rN k dr ri ca d ∧ rN k dr ri ca d ≤ 830 := by
  obtain ⟨h1, h2, h3, h4, h5, h6, -⟩ := h
  have := mul_le20 (x := d - 1) h4 (by omega)
  unfold rN
  split
  · omega
  · split
    · omega
    · split <;> omega
theorem RS_b {k dr ri ca pr : Nat} (h : OF k dr ri ca pr) : ∀ j, j ≤ 40 → j ≤ RS k dr ri ca j ∧ RS k dr ri ca j ≤ 830 * j := by
  intro j
  induction j with
  | zero => intro _; exact ⟨Nat.le_refl _, Nat.le_refl _⟩
  | succ j ih =>
    intro hj
    obtain ⟨h1, h2⟩ := ih (by omega)
    obtain ⟨h3, h4⟩ := rN_b h hj
    show j + 1 ≤ RS k dr ri ca j + rN k dr ri ca (j + 1) ∧ RS k dr ri ca j + rN k dr ri ca (j + 1) ≤ 830 * (j + 1)
    omega
/-- sums of rents and a price, as wide as they come -/
def RB (rs : Nat → Nat) (pr : Nat) : Prop := (∀ j, j ≤ 40 → rs j ≤ 33200) ∧ (∀ j, 1 ≤ j → j ≤ 40 → 1 ≤ rs j) ∧ 1 ≤ pr ∧ pr ≤ 500 ∧ rs 0 = 0
theorem OF.rb {k dr ri ca pr : Nat} (h : OF k dr ri ca pr) : RB (RS k dr ri ca) pr := ⟨fun j hj => by have := (RS_b h j hj).2; omega, fun j h1 hj => by have := (RS_b h j hj).1; omega, h.2.2.2.2.2.2.1, h.2.2.2.2.2.2.2, rfl⟩
/-- the class's sums -/
def CR (rs : Nat → Nat) (pr : Nat) (rsF : Nat → Int32) (tkp : Int32) : Prop := (∀ j, j ≤ 40 → rsF j = nI (rs j)) ∧ tkp = nI pr
/-- the reference's offer -/
def MO (k dr ri ca pr : Nat) (mkd mrt mri mca mpr : Int32) : Prop := mkd = nI k ∧ mrt = nI dr ∧ (1 ≤ k → mri = nI ri) ∧ (k = 2 → mca = nI ca) ∧ mpr = nI pr
section MR
variable {mkd mrt mri mca mpr men mth mrq mos : Int32} {mtr : Int64} {k dr ri ca pr : Nat}
theorem rentOf_m (ho : OF k dr ri ca pr) (hm : MO k dr ri ca pr mkd mrt mri mca mpr) {d : Nat} (h1 : 1 ≤ d) (h2 : d ≤ 40) {K : Int32 → Prop} (hK : K (nI (rN k dr ri ca d))) : g_X7_rentOf mkd mrt mri mca mpr men mth mrq mtr mos (nI d) K := by
  obtain ⟨o1, o2, o3, o4, o5, o6, -⟩ := ho
  obtain ⟨rfl, rfl, e3, e4, -⟩ := hm
  have hx : ri * (d - 1) ≤ 780 := mul_le20 o4 (by omega)
  have hd1 : nI d - 1 = nI (d - 1) := pk_sub (a := d) (b := 1) h1
  unfold g_X7_rentOf
  refine ⟨fun t => t = nI (if k = 0 then 0 else ri * (d - 1)), ?_, ?_, ?_⟩
  · rintro t rfl
    have e : nI dr + nI (if k = 0 then 0 else ri * (d - 1)) = nI (dr + (if k = 0 then 0 else ri * (d - 1))) := nI_add _ _
    rw [e]
    refine ⟨fun c => ?_, fun c => ?_⟩
    · have : ¬ k = 2 := fun q => c (by rw [q]; rfl)
      have e5 : dr + (if k = 0 then 0 else ri * (d - 1)) = rN k dr ri ca d := by
        unfold rN
        by_cases q : k = 0
        · rw [if_pos q, if_pos q]; rfl
        · rw [if_neg q, if_neg q, if_pos (by omega)]
      rw [e5]
      exact hK
    · have hk : k = 2 := (nI_eq (b := 2) (by omega) (by omega)).mp c
      subst hk
      rw [e4 rfl]
      simp only [if_neg (show ¬ (2 : Nat) = 0 by omega)]
      refine ⟨fun q => ?_, fun q => ?_⟩
      · have q := (nI_leI (by omega) (by omega)).mp q
        rw [show dr + ri * (d - 1) = rN 2 dr ri ca d by unfold rN; rw [if_neg (by omega), if_neg (by omega), if_neg (by omega)]]
        exact hK
      · have q : ¬ dr + ri * (d - 1) ≤ ca := fun z => q ((nI_leI (by omega) (by omega)).mpr z)
        rw [show nI ca = nI (rN 2 dr ri ca d) by unfold rN; rw [if_neg (by omega), if_neg (by omega), if_pos (by omega)]]
        exact hK
  · intro c
    have : k = 0 := by
      have := (nI_leI (a := k) (b := 0) (by omega) (by omega)).mp c
      omega
    subst this
    rfl
  · intro c
    have : ¬ k = 0 := fun q => c (by subst q; exact (nI_leI (a := 0) (b := 0) (by omega) (by omega)).mpr (Nat.le_refl 0))
    rw [if_neg this, e3 (by omega)]
    show nI ri * (nI d - 1) = _
    rw [hd1, pk_mul]
theorem rentsTo_m (ho : OF k dr ri ca pr) (hm : MO k dr ri ca pr mkd mrt mri mca mpr) {d : Nat} (h2 : d ≤ 40) {K : Int32 → Prop} (hK : K (nI (RS k dr ri ca d))) : g_X7_rentsTo mkd mrt mri mca mpr men mth mrq mtr mos (nI d) K := by
  unfold g_X7_rentsTo
  refine ⟨fun n s i => ∃ j, j ≤ d ∧ n = d - j + 1 ∧ s = nI (RS k dr ri ca j) ∧ i = nI (j + 1), ⟨d + 1, 0, by omega, by omega, rfl, rfl⟩, ?_, ?_⟩
  · rintro s i ⟨j, h, h', -⟩
    omega
  · rintro n s i ⟨j, hj, hn, rfl, rfl⟩
    refine ⟨fun c => ?_, fun c => ?_⟩
    · have c := (nI_ltI (by omega) (by omega)).mp c
      have : j = d := by omega
      subst this
      exact hK
    · have c : ¬ d < j + 1 := fun z => c ((nI_ltI (by omega) (by omega)).mpr z)
      refine rentOf_m ho hm (by omega) (by omega) ⟨j + 1, by omega, by omega, ?_, ?_⟩
      · rw [nI_add]; rfl
      · exact nI_1 _
end MR
/-! ===== cost, known ===== -/
def cst (rs : Nat → Nat) (pr p e : Nat) : Nat := if p ≤ e then rs (p - 1) + pr else rs e
def knw (rs : Nat → Nat) (pr e : Nat) : Nat := if rs e < pr then rs e else pr
theorem cst_b {rs : Nat → Nat} {pr p e : Nat} (h : RB rs pr) (hp : p ≤ 41) (h1 : 1 ≤ e) (he : e ≤ 40) : 1 ≤ cst rs pr p e ∧ cst rs pr p e ≤ 33700 := by
  obtain ⟨q1, q2, q3, q4, -⟩ := h
  unfold cst
  split
  · have := q1 (p - 1) (by omega); omega
  · have := q1 e he; have := q2 e h1 he; omega
theorem knw_b {rs : Nat → Nat} {pr e : Nat} (h : RB rs pr) (h1 : 1 ≤ e) (he : e ≤ 40) : 1 ≤ knw rs pr e ∧ knw rs pr e ≤ 500 := by
  obtain ⟨q1, q2, q3, q4, -⟩ := h
  unfold knw
  have := q2 e h1 he
  split <;> omega
section CC
variable {days tkd tkp tkr tkc : Int32} {tkk : Nat} {rsF : Nat → Int32} {rs : Nat → Nat} {pr : Nat}
theorem costOf_c (hb : RB rs pr) (hc : CR rs pr rsF tkp) {p e : Nat} (hp1 : 1 ≤ p) (hp : p ≤ 41) (he : e ≤ 40) {K : Int32 → Prop} (hK : K (nI (cst rs pr p e))) : g_X3_costOf days tkk tkd tkp tkr tkc rsF (nI p) (nI e) K := by
  obtain ⟨h1, rfl⟩ := hc
  unfold g_X3_costOf
  have e1 : nI p - 1 = nI (p - 1) := pk_sub (a := p) (b := 1) hp1
  refine ⟨fun c => ⟨vp_in_nI (by omega) (by omega), ?_⟩, fun c => ⟨?_, ?_⟩⟩
  · have c := (nI_ltI (by omega) (by omega)).mp c
    rw [nI_clamp (by omega), h1 e he, show rs e = cst rs pr p e by unfold cst; rw [if_neg (by omega)]]
    exact hK
  · rw [e1]; exact vp_in_nI (by omega) (by omega)
  · have c : ¬ e < p := fun z => c ((nI_ltI (by omega) (by omega)).mpr z)
    rw [e1, nI_clamp (by omega), h1 (p - 1) (by omega), nI_add, show rs (p - 1) + pr = cst rs pr p e by unfold cst; rw [if_pos (by omega)]]
    exact hK
theorem knownBy_c (hb : RB rs pr) (hc : CR rs pr rsF tkp) {e : Nat} (he : e ≤ 40) {K : Int32 → Prop} (hK : K (nI (knw rs pr e))) : g_X3_knownBy days tkk tkd tkp tkr tkc rsF (nI e) K := by
  obtain ⟨h1, rfl⟩ := hc
  obtain ⟨q1, q2, q3, q4, -⟩ := hb
  have := q1 e he
  unfold g_X3_knownBy
  refine ⟨vp_in_nI (by omega) (by omega), ?_⟩
  rw [nI_clamp (by omega), h1 e he]
  unfold knw at hK
  by_cases c : rs e < pr
  · rw [if_pos c] at hK
    rw [if_pos ((nI_ltI (by omega) (by omega)).mpr c)]
    exact hK
  · rw [if_neg c] at hK
    rw [if_neg (fun z => c ((nI_ltI (by omega) (by omega)).mp z))]
    exact hK
end CC
section MC
variable {mkd mrt mri mca mpr men mth mrq mos : Int32} {mtr : Int64} {k dr ri ca pr : Nat}
theorem costOf_m (ho : OF k dr ri ca pr) (hm : MO k dr ri ca pr mkd mrt mri mca mpr) {p e : Nat} (hp1 : 1 ≤ p) (hp : p ≤ 41) (he : e ≤ 40) {K : Int32 → Prop} (hK : K (nI (cst (RS k dr ri ca) pr p e))) : g_X7_costOf mkd mrt mri mca mpr men mth mrq mtr mos (nI p) (nI e) K := by
  unfold g_X7_costOf
  have e1 : nI p - 1 = nI (p - 1) := pk_sub (a := p) (b := 1) hp1
  refine ⟨fun c => rentsTo_m ho hm he ?_, fun c => ?_⟩
  · have c := (nI_ltI (by omega) (by omega)).mp c
    rw [show RS k dr ri ca e = cst (RS k dr ri ca) pr p e by unfold cst; rw [if_neg (by omega)]]
    exact hK
  · have c : ¬ e < p := fun z => c ((nI_ltI (by omega) (by omega)).mpr z)
    rw [e1]
    refine rentsTo_m ho hm (by omega) ?_
    rw [hm.2.2.2.2, nI_add, show RS k dr ri ca (p - 1) + pr = cst (RS k dr ri ca) pr p e by unfold cst; rw [if_pos (by omega)]]
    exact hK
theorem knownBy_m (ho : OF k dr ri ca pr) (hm : MO k dr ri ca pr mkd mrt mri mca mpr) {e : Nat} (he : e ≤ 40) {K : Int32 → Prop} (hK : K (nI (knw (RS k dr ri ca) pr e))) : g_X7_knownBy mkd mrt mri mca mpr men mth mrq mtr mos (nI e) K := by
  have hb := ho.rb
  obtain ⟨q1, q2, q3, q4, -⟩ := hb
  have := q1 e he
  unfold g_X7_knownBy
  refine rentsTo_m ho hm he ?_
  rw [hm.2.2.2.2]
  unfold knw at hK
  refine ⟨fun c => ?_, fun c => ?_⟩
  · have c := (nI_leI (by omega) (by omega)).mp c
    by_cases z : RS k dr ri ca e < pr
    · rw [if_pos z] at hK; exact hK
    · rw [if_neg z] at hK
      rw [show RS k dr ri ca e = pr by omega]; exact hK
  · have c : ¬ RS k dr ri ca e ≤ pr := fun z => c ((nI_leI (by omega) (by omega)).mpr z)
    rw [if_neg (by omega)] at hK
    exact hK
end MC
