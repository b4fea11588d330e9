/-! ===== offers, rents, ends, shares ===== -/
theorem in_c1 {p a b : Int32} {K : Int32 → Prop} (h : a ≤ p ∧ p ≤ b) (hK : K 1) : g_X6_isWithin p a b K := in_c (fun _ => hK) (fun z => absurd h z)
theorem in_m1 {p a b : Int32} {K : Int32 → Prop} (h : a ≤ p ∧ p ≤ b) (hK : K 1) : g_X7_in p a b K := in_m (fun _ => hK) (fun z => absurd h z)
theorem nI_btw {a d b : Nat} (h1 : a ≤ d) (h2 : d ≤ b) (hb : b < 2 ^ 31) : nI a ≤ nI d ∧ nI d ≤ nI b := ⟨(nI_leI (by omega) (by omega)).mpr h1, (nI_leI (by omega) hb).mpr h2⟩
/-- the class's offer -/
def CT (k dr ri ca pr tkk : Nat) (tkd tkp tkr tkc : Int32) : Prop := tkk = k ∧ tkd = nI dr ∧ tkp = nI pr ∧ (1 ≤ k → tkr = nI ri) ∧ (k = 2 → tkc = nI ca)
theorem rentOf_0 {tkd tkp : Int32} {dr ri ca d : Nat} (h : tkd = nI dr) {K : Int32 → Prop} (hK : K (nI (rN 0 dr ri ca d))) : g_X1_rentOf_k0 tkd tkp (nI d) K := by
  unfold g_X1_rentOf_k0
  rw [h]
  exact hK
theorem rentOf_1 {tkd tkp tkr : Int32} {dr ri ca d : Nat} (h : tkd = nI dr) (h' : tkr = nI ri) (hd : 1 ≤ d) {K : Int32 → Prop} (hK : K (nI (rN 1 dr ri ca d))) : g_X4_rentOf_k1 tkd tkp tkr (nI d) K := by
  unfold g_X4_rentOf_k1 g_X1_rentOf_k1
  show K (tkd + tkr * (nI d - 1))
  rw [h, h', show nI d - 1 = nI (d - 1) from pk_sub (b := 1) hd, pk_mul, nI_add]
  exact hK
theorem rentOf_2 {tkd tkp tkr tkc : Int32} {dr ri ca d : Nat} (h : tkd = nI dr) (h' : tkr = nI ri) (h2 : tkc = nI ca) (hd : 1 ≤ d) (hb : dr + ri * (d - 1) < 2 ^ 31) (hc : ca < 2 ^ 31) {K : Int32 → Prop} (hK : K (nI (rN 2 dr ri ca d))) : g_X0_rentOf_k2 tkr tkd tkp tkc (nI d) K := by
  unfold g_X0_rentOf_k2 g_X4_rentOf_k2 g_X1_rentOf_k2
  show K (if tkc < tkd + tkr * (nI d - 1) then tkc else tkd + tkr * (nI d - 1))
  rw [h, h', h2, show nI d - 1 = nI (d - 1) from pk_sub (b := 1) hd, pk_mul, nI_add]
  unfold rN at hK
  rw [if_neg (by omega), if_neg (by omega)] at hK
  by_cases z : ca < dr + ri * (d - 1)
  · rw [if_pos z] at hK
    rw [if_pos ((nI_ltI hc hb).mpr z)]
    exact hK
  · rw [if_neg z] at hK
    rw [if_neg (fun y => z ((nI_ltI hc hb).mp y))]
    exact hK
theorem take_0 {days : Int32} {tkd tkp : Int32} {rsF : Nat → Int32} {dr ri ca pr : Nat} (ho : OF 0 dr ri ca pr) (h1 : tkd = nI dr) (h0 : rsF 0 = 0) {K : (Nat → Int32) → Prop} (hK : ∀ F, (∀ j, j ≤ 40 → F j = nI (RS 0 dr ri ca j)) → K F) : g_X3_take_k0 days tkd tkp rsF K := by
  unfold g_X3_take_k0
  refine ⟨fun n i F => ∃ j, j ≤ 40 ∧ n = 41 - j ∧ i = nI (j + 1) ∧ ∀ q, q ≤ j → F q = nI (RS 0 dr ri ca q), ⟨41, 0, by omega, rfl, rfl, fun q hq => ?_⟩, ?_, ?_⟩
  · have : q = 0 := by omega
    subst this
    exact h0
  · rintro i F ⟨j, h, h', -⟩
    omega
  · rintro n i F ⟨j, hj, hn, rfl, hF⟩
    have e1 : nI (j + 1) - 1 = nI j := nI_pred j
    refine ⟨fun c => ?_, fun c => ?_⟩
    · have c := (nI_ltI (a := 40) (by omega) (by omega)).mp c
      have : j = 40 := by omega
      subst this
      exact hK F hF
    · have c : ¬ 40 < j + 1 := fun z => c ((nI_ltI (a := 40) (by omega) (by omega)).mpr z)
      rw [e1]
      refine ⟨vp_in_nI (by omega) (by omega), rentOf_0 (ri := ri) (ca := ca) h1 ⟨vp_in_nI (by omega) (by omega), j + 1, by omega, by omega, nI_1 _, fun q hq => ?_⟩⟩
      rw [nI_clamp (by omega), nI_clamp (by omega), hF j (Nat.le_refl j), nI_add]
      by_cases z : q = j + 1
      · subst z
        rw [pk_us]
        rfl
      · rw [pk_un z]
        exact hF q (by omega)
theorem take_1 {days : Int32} {tkd tkp tkr : Int32} {rsF : Nat → Int32} {dr ri ca pr : Nat} (ho : OF 1 dr ri ca pr) (h1 : tkd = nI dr) (h2 : tkr = nI ri) (h0 : rsF 0 = 0) {K : (Nat → Int32) → Prop} (hK : ∀ F, (∀ j, j ≤ 40 → F j = nI (RS 1 dr ri ca j)) → K F) : g_X3_take_k1 days tkd tkp tkr rsF K := by
  unfold g_X3_take_k1
  refine ⟨fun n i F => ∃ j, j ≤ 40 ∧ n = 41 - j ∧ i = nI (j + 1) ∧ ∀ q, q ≤ j → F q = nI (RS 1 dr ri ca q), ⟨41, 0, by omega, rfl, rfl, fun q hq => ?_⟩, ?_, ?_⟩
  · have : q = 0 := by omega
    subst this
    exact h0
  · rintro i F ⟨j, h, h', -⟩
    omega
  · rintro n i F ⟨j, hj, hn, rfl, hF⟩
    have e1 : nI (j + 1) - 1 = nI j := nI_pred j
    refine ⟨fun c => ?_, fun c => ?_⟩
    · have c := (nI_ltI (a := 40) (by omega) (by omega)).mp c
      have : j = 40 := by omega
      subst this
      exact hK F hF
    · have c : ¬ 40 < j + 1 := fun z => c ((nI_ltI (a := 40) (by omega) (by omega)).mpr z)
      rw [e1]
      refine ⟨vp_in_nI (by omega) (by omega), rentOf_1 (ca := ca) h1 h2 (by omega) ⟨vp_in_nI (by omega) (by omega), j + 1, by omega, by omega, nI_1 _, fun q hq => ?_⟩⟩
      rw [nI_clamp (by omega), nI_clamp (by omega), hF j (Nat.le_refl j), nI_add]
      by_cases z : q = j + 1
      · subst z
        rw [pk_us]
        rfl
      · rw [pk_un z]
        exact hF q (by omega)
theorem take_2 {days : Int32} {tkd tkp tkr tkc : Int32} {rsF : Nat → Int32} {dr ri ca pr : Nat} (ho : OF 2 dr ri ca pr) (h1 : tkd = nI dr) (h2 : tkr = nI ri) (h3 : tkc = nI ca) (h0 : rsF 0 = 0) {K : (Nat → Int32) → Prop} (hK : ∀ F, (∀ j, j ≤ 40 → F j = nI (RS 2 dr ri ca j)) → K F) : g_X3_take_k2 days tkr tkd tkp tkc rsF K := by
  unfold g_X3_take_k2
  refine ⟨fun n i F => ∃ j, j ≤ 40 ∧ n = 41 - j ∧ i = nI (j + 1) ∧ ∀ q, q ≤ j → F q = nI (RS 2 dr ri ca q), ⟨41, 0, by omega, rfl, rfl, fun q hq => ?_⟩, ?_, ?_⟩
  · have : q = 0 := by omega
    subst this
    exact h0
  · rintro i F ⟨j, h, h', -⟩
    omega
  · rintro n i F ⟨j, hj, hn, rfl, hF⟩
    have e1 : nI (j + 1) - 1 = nI j := nI_pred j
    refine ⟨fun c => ?_, fun c => ?_⟩
    · have c := (nI_ltI (a := 40) (by omega) (by omega)).mp c
      have : j = 40 := by omega
      subst this
      exact hK F hF
    · have c : ¬ 40 < j + 1 := fun z => c ((nI_ltI (a := 40) (by omega) (by omega)).mpr z)
      rw [e1]
      refine ⟨vp_in_nI (by omega) (by omega), rentOf_2 h1 h2 h3 (by omega) (by have := mul_le20 (x := j + 1 - 1) ho.2.2.2.1 (by omega); have := ho.2.2.1; omega) (by have := ho.2.2.2.2.2.1; omega) ⟨vp_in_nI (by omega) (by omega), j + 1, by omega, by omega, nI_1 _, fun q hq => ?_⟩⟩
      rw [nI_clamp (by omega), nI_clamp (by omega), hF j (Nat.le_refl j), nI_add]
      by_cases z : q = j + 1
      · subst z
        rw [pk_us]
        rfl
      · rw [pk_un z]
        exact hF q (by omega)
theorem plansInit_c {K : Int32 → Int32 → Int32 → (Nat → Int32) → Prop} (hK : ∀ F, (∀ j, j ≤ 40 → F j = nI (RS 0 1 0 1 j)) → K (nI 20) (nI 1) (nI 10) F) : g_X3_init K := by
  unfold g_X3_init g_X1_init_k0
  refine ⟨fun n i F => ∃ j, j ≤ 40 ∧ n = 41 - j ∧ i = nI (j + 1) ∧ ∀ q, q ≤ j → F q = nI (RS 0 1 0 1 q), ⟨41, 0, by omega, rfl, rfl, fun q hq => ?_⟩, ?_, ?_⟩
  · have : q = 0 := by omega
    subst this
    rfl
  · rintro i F ⟨j, h, h', -⟩
    omega
  · rintro n i F ⟨j, hj, hn, rfl, hF⟩
    have e1 : nI (j + 1) - 1 = nI j := nI_pred j
    refine ⟨fun c => ?_, fun c => ?_⟩
    · have c := (nI_ltI (a := 40) (by omega) (by omega)).mp c
      have : j = 40 := by omega
      subst this
      exact hK F hF
    · have c : ¬ 40 < j + 1 := fun z => c ((nI_ltI (a := 40) (by omega) (by omega)).mpr z)
      rw [e1]
      refine ⟨vp_in_nI (by omega) (by omega), vp_in_nI (by omega) (by omega), j + 1, by omega, by omega, nI_1 _, fun q hq => ?_⟩
      rw [nI_clamp (by omega), nI_clamp (by omega), hF j (Nat.le_refl j), nI_1]
      by_cases z : q = j + 1
      · subst z
        rw [pk_us]
        rfl
      · rw [pk_un z]
        exact hF q (by omega)
/-- an offer's arguments, all as told -/
def OKO (k dr ri ca pr : Nat) (p1 p2 p3 p4 p5 : Int32) : Prop := OF k dr ri ca pr ∧ p1 = nI k ∧ p2 = nI dr ∧ (1 ≤ k → p3 = nI ri) ∧ (k = 2 → p4 = nI ca) ∧ p5 = nI pr
theorem oko_of {p1 p2 p3 p4 p5 : Int32} (h1 : (0 : Int32) ≤ p1 ∧ p1 ≤ 2) (h2 : (1 : Int32) ≤ p2 ∧ p2 ≤ 50) (h3 : p1 = 0 ∨ (0 : Int32) ≤ p3 ∧ p3 ≤ 20) (h4 : p1 = 2 → (1 : Int32) ≤ p4 ∧ p4 ≤ 200) (h5 : (1 : Int32) ≤ p5 ∧ p5 ≤ 500) : ∃ k dr ri ca pr, OKO k dr ri ca pr p1 p2 p3 p4 p5 := by
  obtain ⟨k, -, k2, rfl⟩ := rng (a := 0) (b := 2) (by omega) (by omega) h1.1 h1.2
  obtain ⟨dr, d1, d2, rfl⟩ := rng (a := 1) (b := 50) (by omega) (by omega) h2.1 h2.2
  obtain ⟨pr, q1, q2, rfl⟩ := rng (a := 1) (b := 500) (by omega) (by omega) h5.1 h5.2
  have hr : ∃ ri, ri ≤ 20 ∧ (1 ≤ k → p3 = nI ri) := by
    rcases h3 with h3 | h3
    · have : k = 0 := (nI_eq (b := 0) (by omega) (by omega)).mp h3
      exact ⟨0, by omega, fun z => by omega⟩
    · obtain ⟨ri, -, r2, e⟩ := rng (a := 0) (b := 20) (by omega) (by omega) h3.1 h3.2
      exact ⟨ri, r2, fun _ => e⟩
  have hc : ∃ ca, 1 ≤ ca ∧ ca ≤ 200 ∧ (k = 2 → p4 = nI ca) := by
    by_cases z : k = 2
    · obtain ⟨ca, r1, r2, e⟩ := rng (a := 1) (b := 200) (by omega) (by omega) (h4 (by rw [z]; rfl)).1 (h4 (by rw [z]; rfl)).2
      exact ⟨ca, r1, r2, fun _ => e⟩
    · exact ⟨1, by omega, by omega, fun y => absurd y z⟩
  obtain ⟨ri, r2, er⟩ := hr
  obtain ⟨ca, c1, c2, ec⟩ := hc
  exact ⟨k, dr, ri, ca, pr, ⟨k2, d1, d2, r2, c1, c2, q1, q2⟩, rfl, rfl, er, ec, rfl⟩
theorem i2_ne {k : Nat} (h : k ≤ 2) {m : Nat} (hm : m ≤ 2) : nI k = nI m ↔ k = m := nI_eq (by omega) (by omega)
section C7
variable {trc : Int64} {tkd tkp tkr tkc p1 p2 p3 p4 p5 : Int32} {tkk : Nat} {rsF : Nat → Int32} {E : Nat} {K : Int32 → Nat → Int32 → Int32 → Int32 → Int32 → (Nat → Int32) → Prop}
theorem offer_c0 (h : ¬ ∃ k dr ri ca pr, OKO k dr ri ca pr p1 p2 p3 p4 p5) (hK : K (-1) tkk tkd tkp tkr tkc rsF) : g_X6_offer trc (nI E) tkk tkd tkp tkr tkc rsF p1 p2 p3 p4 p5 K := by
  unfold g_X6_offer
  refine in_c (fun h1 => yes1 (in_c (fun h2 => yes1 (in_c (fun h5 => yes1' ?_) (fun _ => no0' hK))) (fun _ => no0 hK))) (fun _ => no0 hK)
  refine ⟨p1 = 0 ∨ (0 : Int32) ≤ p3 ∧ p3 ≤ 20, fun h3 => ⟨p1 = 2 → (1 : Int32) ≤ p4 ∧ p4 ≤ 200, fun h4 => absurd (oko_of h1 h2 h3 h4 h5) h, fun z y => absurd y z, fun z => in_c (fun y => yes1' (fun _ => y)) (fun _ => no0' hK)⟩, fun z => Or.inl z, fun z => in_c (fun y => yes1' (Or.inr y)) (fun _ => no0' hK)⟩
theorem offer_c1 {k dr ri ca pr : Nat} (hE1 : 1 ≤ E) (hE : E ≤ 40) (h : OKO k dr ri ca pr p1 p2 p3 p4 p5) (h0 : rsF 0 = 0) (hK : ∀ tr tc F, (1 ≤ k → tr = nI ri) → (k = 2 → tc = nI ca) → (∀ j, j ≤ 40 → F j = nI (RS k dr ri ca j)) → K (nI (knw (RS k dr ri ca) pr E)) k (nI dr) (nI pr) tr tc F) : g_X6_offer trc (nI E) tkk tkd tkp tkr tkc rsF p1 p2 p3 p4 p5 K := by
  obtain ⟨ho, rfl, rfl, e3, e4, rfl⟩ := h
  obtain ⟨o1, o2, o3, o4, o5, o6, o7, o8⟩ := id ho
  have hb := ho.rb
  unfold g_X6_offer
  refine in_c1 (nI_btw (a := 0) (b := 2) (by omega) o1 (by omega)) (yes1 (in_c1 (nI_btw (a := 1) (b := 50) o2 o3 (by omega)) (yes1 (in_c1 (nI_btw (a := 1) (b := 500) o7 o8 (by omega)) (yes1' ?_)))))
  refine ⟨True, fun _ => ⟨True, fun _ => ?_, fun _ => trivial, fun z => ?_⟩, fun _ => trivial, fun z => ?_⟩
  · refine ⟨fun z => ⟨fun y => ?_, fun y => ?_⟩, fun z => ?_⟩
    · have hk : k = 2 := by
        have a1 : ¬ k = 0 := fun q => z (by rw [q]; rfl)
        have a2 : ¬ k = 1 := fun q => y (by rw [q]; rfl)
        omega
      subst hk
      unfold g_X0_init_k2 g_X4_init_k2 g_X1_init_k2
      refine take_2 ho rfl (e3 (by omega)) (e4 rfl) h0 (fun F hF => ?_)
      exact knownBy_c hb ⟨hF, rfl⟩ hE (hK _ _ F (fun _ => e3 (by omega)) (fun _ => e4 rfl) hF)
    · have hk : k = 1 := (i2_ne o1 (m := 1) (by omega)).mp y
      subst hk
      unfold g_X4_init_k1 g_X1_init_k1
      refine take_1 ho rfl (e3 (by omega)) h0 (fun F hF => ?_)
      exact knownBy_c hb ⟨hF, rfl⟩ hE (hK _ _ F (fun _ => e3 (by omega)) (fun q => by omega) hF)
    · have hk : k = 0 := (i2_ne o1 (m := 0) (by omega)).mp z
      subst hk
      unfold g_X1_init_k0
      refine take_0 ho rfl h0 (fun F hF => ?_)
      exact knownBy_c hb ⟨hF, rfl⟩ hE (hK _ _ F (fun q => by omega) (fun q => by omega) hF)
  · have hk : k = 2 := (i2_ne o1 (m := 2) (by omega)).mp z
    refine in_c1 ?_ (yes1' trivial)
    rw [e4 hk]
    exact nI_btw (a := 1) (b := 200) o5 o6 (by omega)
  · have hk : ¬ k = 0 := fun q => z (by rw [q]; rfl)
    refine in_c1 ?_ (yes1' trivial)
    rw [e3 (by omega)]
    exact nI_btw (a := 0) (b := 20) (by omega) o4 (by omega)
end C7
section M7
variable {mkd mrt mri mca mpr mth mrq mos p1 p2 p3 p4 p5 : Int32} {mtr : Int64} {E : Nat} {K : Int32 → Int32 → Int32 → Int32 → Int32 → Int32 → Prop}
theorem offer_m0 (h : ¬ ∃ k dr ri ca pr, OKO k dr ri ca pr p1 p2 p3 p4 p5) (hK : K (-1) mkd mrt mri mca mpr) : g_X7_offer mkd mrt mri mca mpr (nI E) mth mrq mtr mos p1 p2 p3 p4 p5 K := by
  unfold g_X7_offer
  refine in_m (fun h1 => yes1 (in_m (fun h2 => yes1 ?_) (fun _ => no0 hK))) (fun _ => no0 hK)
  refine ⟨p1 = 0 ∨ (0 : Int32) ≤ p3 ∧ p3 ≤ 20, fun h3 => ⟨p1 = 2 → (1 : Int32) ≤ p4 ∧ p4 ≤ 200, fun h4 => in_m (fun h5 => absurd (oko_of h1 h2 h3 h4 h5) h) (fun _ => no0' hK), fun z y => absurd y z, fun z => in_m (fun y => yes1 (fun _ => y)) (fun _ => no0 hK)⟩, fun z => Or.inl ?_, fun z => in_m (fun y => yes1 (Or.inr y)) (fun _ => no0 hK)⟩
  obtain ⟨k, -, k2, rfl⟩ := rng (a := 0) (b := 2) (by omega) (by omega) h1.1 h1.2
  have := (nI_leI (a := k) (b := 0) (by omega) (by omega)).mp z
  have : k = 0 := by omega
  rw [this]
  rfl
theorem offer_m1 {k dr ri ca pr : Nat} (hE : E ≤ 40) (h : OKO k dr ri ca pr p1 p2 p3 p4 p5) (hK : K (nI (knw (RS k dr ri ca) pr E)) p1 p2 p3 p4 p5) : g_X7_offer mkd mrt mri mca mpr (nI E) mth mrq mtr mos p1 p2 p3 p4 p5 K := by
  obtain ⟨ho, rfl, rfl, e3, e4, rfl⟩ := h
  obtain ⟨o1, o2, o3, o4, o5, o6, o7, o8⟩ := id ho
  unfold g_X7_offer
  refine in_m1 (nI_btw (a := 0) (b := 2) (by omega) o1 (by omega)) (yes1 (in_m1 (nI_btw (a := 1) (b := 50) o2 o3 (by omega)) (yes1 ?_)))
  refine ⟨True, fun _ => ⟨True, fun _ => in_m1 (nI_btw (a := 1) (b := 500) o7 o8 (by omega)) (yes1' (knownBy_m ho ⟨rfl, rfl, e3, e4, rfl⟩ hE hK)), fun _ => trivial, fun z => ?_⟩, fun _ => trivial, fun z => ?_⟩
  · have hk : k = 2 := (i2_ne o1 (m := 2) (by omega)).mp z
    refine in_m1 ?_ (yes1 trivial)
    rw [e4 hk]
    exact nI_btw (a := 1) (b := 200) o5 o6 (by omega)
  · have hk : ¬ k = 0 := fun q => z (by rw [q]; exact (nI_leI (a := 0) (b := 0) (by omega) (by omega)).mpr (Nat.le_refl 0))
    refine in_m1 ?_ (yes1 trivial)
    rw [e3 (by omega)]
    exact nI_btw (a := 0) (b := 20) (by omega) o4 (by omega)
end M7
/-! ===== rent, with the trace ===== -/
abbrev vDy (p : Int32) : Prop := (1 : Int32) ≤ p ∧ p ≤ (40 : Int32)
def renS (k dr ri ca : Nat) (p : Int32) : Int32 := if vDy p then nI (rN k dr ri ca p.toNatClampNeg) else -1
def traS (k : Nat) (p : Int32) (t : Int64) : Int64 := if vDy p then t + (if k = 0 then 1 else if k = 1 then 11 else 111) else t
theorem vDy_of {p : Int32} (h : vDy p) : ∃ d, 1 ≤ d ∧ d ≤ 40 ∧ p = nI d := rng (a := 1) (b := 40) (by omega) (by omega) h.1 h.2
theorem rent_c {trc : Int64} {days tkd tkp tkr tkc p1 : Int32} {tkk k dr ri ca pr : Nat} (ho : OF k dr ri ca pr) (ht : CT k dr ri ca pr tkk tkd tkp tkr tkc) {K : Int32 → Int64 → Prop} (hK : K (renS k dr ri ca p1) (traS k p1 trc)) : g_X6_rent trc days tkk tkd tkp tkr tkc p1 K := by
  obtain ⟨rfl, e1, -, e3, e4⟩ := ht
  obtain ⟨o1, o2, o3, o4, o5, o6, o7, o8⟩ := id ho
  unfold renS traS at hK
  unfold g_X6_rent
  refine ⟨fun z => ?_, fun z => ?_, fun z y => ?_⟩
  · subst z
    unfold g_X6_rent_k0
    refine in_c (fun h => yes1' ?_) (fun h => no0' ?_)
    · obtain ⟨d, d1, d2, rfl⟩ := vDy_of h
      rw [if_pos h, if_pos h, nI_clamp (by omega), if_pos rfl] at hK
      unfold g_X1_bodiesAsked_k0
      exact rentOf_0 (ri := ri) (ca := ca) e1 hK
    · rw [if_neg h, if_neg h] at hK; exact hK
  · subst z
    unfold g_X6_rent_k1
    refine in_c (fun h => yes1' ?_) (fun h => no0' ?_)
    · obtain ⟨d, d1, d2, rfl⟩ := vDy_of h
      rw [if_pos h, if_pos h, nI_clamp (by omega), if_neg (by omega), if_pos rfl] at hK
      unfold g_X4_bodiesAsked_k1 g_X1_bodiesAsked_k1
      exact rentOf_1 (ca := ca) e1 (e3 (by omega)) d1 hK
    · rw [if_neg h, if_neg h] at hK; exact hK
  · have z2 : tkk = 2 := by omega
    subst z2
    unfold g_X6_rent_k2
    refine in_c (fun h => yes1' ?_) (fun h => no0' ?_)
    · obtain ⟨d, d1, d2, rfl⟩ := vDy_of h
      have := mul_le20 (x := d - 1) o4 (by omega)
      rw [if_pos h, if_pos h, nI_clamp (by omega), if_neg (by omega), if_neg (by omega)] at hK
      unfold g_X0_bodiesAsked_k2 g_X4_bodiesAsked_k2 g_X1_bodiesAsked_k2
      exact rentOf_2 e1 (e3 (by omega)) (e4 rfl) d1 (by omega) (by omega) hK
    · rw [if_neg h, if_neg h] at hK; exact hK
theorem rent_m {mkd mrt mri mca mpr men mth mrq mos p1 : Int32} {mtr : Int64} {k dr ri ca pr : Nat} (ho : OF k dr ri ca pr) (hm : MO k dr ri ca pr mkd mrt mri mca mpr) {K : Int32 → Int64 → Prop} (hK : K (renS k dr ri ca p1) (traS k p1 mtr)) : g_X7_rent mkd mrt mri mca mpr men mth mrq mtr mos p1 K := by
  obtain ⟨o1, o2, o3, o4, o5, o6, o7, o8⟩ := id ho
  have hk := hm.1
  unfold renS traS at hK
  unfold g_X7_rent
  refine in_m (fun h => yes1' ?_) (fun h => no0' ?_)
  · obtain ⟨d, d1, d2, rfl⟩ := vDy_of h
    rw [if_pos h, if_pos h, nI_clamp (by omega)] at hK
    refine ⟨fun t => t = (if k = 0 then 1 else if k = 1 then 11 else 111), ?_, fun z => ⟨fun y => ?_, fun y => ?_⟩, fun z => ?_⟩
    · rintro t rfl
      exact rentOf_m ho hm d1 d2 hK
    · have a1 : ¬ k = 0 := fun q => z (by rw [hk, q]; rfl)
      have a2 : ¬ k = 1 := fun q => y (by rw [hk, q]; rfl)
      show (111 : Int64) = _
      rw [if_neg a1, if_neg a2]
    · have a2 : k = 1 := (i2_ne o1 (m := 1) (by omega)).mp (by rw [← hk]; exact y)
      show (11 : Int64) = _
      rw [if_neg (by omega), if_pos a2]
    · have a1 : k = 0 := (i2_ne o1 (m := 0) (by omega)).mp (by rw [← hk]; exact z)
      show (1 : Int64) = _
      rw [if_pos a1]
  · rw [if_neg h, if_neg h] at hK; exact hK
/-! ===== ends, share ===== -/
theorem clear_c {opF oeF : Nat → Int32} {K : (Nat → Int32) → (Nat → Int32) → Prop} (hK : ∀ F G, (∀ j, j < 42 → F j = 0) → (∀ j, j < 42 → G j = 0) → K F G) : g_X2_clearAll opF oeF K := by
  unfold g_X2_clearAll
  refine ⟨fun n i F G => ∃ j, j ≤ 42 ∧ n = 43 - j ∧ i = nI j ∧ (∀ q, q < j → F q = 0) ∧ (∀ q, q < j → G q = 0), ⟨43, 0, by omega, rfl, rfl, fun q h => by omega, fun q h => by omega⟩, ?_, ?_⟩
  · rintro i F G ⟨j, h, h', -⟩
    omega
  · rintro n i F G ⟨j, hj, hn, rfl, h1, h2⟩
    refine ⟨fun c => ?_, fun c => ?_⟩
    · have c := (nI_leI (a := 42) (by omega) (by omega)).mp c
      exact hK F G (fun q hq => h1 q (by omega)) (fun q hq => h2 q (by omega))
    · have c : ¬ 42 ≤ j := fun z => c ((nI_leI (a := 42) (by omega) (by omega)).mpr z)
      refine ⟨vp_in_nI (by omega) (by omega), vp_in_nI (by omega) (by omega), j + 1, by omega, by omega, nI_1 _, fun q hq => ?_, fun q hq => ?_⟩
      · rw [nI_clamp (by omega)]
        by_cases z : q = j
        · rw [z, pk_us]
        · rw [pk_un z]; exact h1 q (by omega)
      · rw [nI_clamp (by omega)]
        by_cases z : q = j
        · rw [z, pk_us]
        · rw [pk_un z]; exact h2 q (by omega)
theorem ends_c0 {trc : Int64} {days p1 : Int32} {opF oeF : Nat → Int32} {K : Int32 → Int32 → (Nat → Int32) → (Nat → Int32) → Prop} (h : ¬ vDy p1) (hK : K (-1) days opF oeF) : g_X6_ends trc days opF oeF p1 K := by
  unfold g_X6_ends
  exact in_c (fun z => absurd z h) (fun _ => no0' hK)
theorem ends_c1 {trc : Int64} {days p1 : Int32} {opF oeF : Nat → Int32} {K : Int32 → Int32 → (Nat → Int32) → (Nat → Int32) → Prop} (h : vDy p1) (hK : ∀ F G, (∀ j, j < 42 → F j = 0) → (∀ j, j < 42 → G j = 0) → K days p1 F G) : g_X6_ends trc days opF oeF p1 K := by
  unfold g_X6_ends
  exact in_c1 h (yes1' (clear_c hK))
theorem ends_m0 {mkd mrt mri mca mpr men mth mrq mos p1 : Int32} {mtr : Int64} {mpF meF : Nat → Int32} {K : Int32 → Int32 → (Nat → Int32) → (Nat → Int32) → Prop} (h : ¬ vDy p1) (hK : K (-1) men mpF meF) : g_X7_ends mkd mrt mri mca mpr men mth mrq mtr mos mpF meF p1 K := by
  unfold g_X7_ends
  exact in_m (fun z => absurd z h) (fun _ => no0' hK)
theorem ends_m1 {mkd mrt mri mca mpr men mth mrq mos p1 : Int32} {mtr : Int64} {mpF meF : Nat → Int32} {K : Int32 → Int32 → (Nat → Int32) → (Nat → Int32) → Prop} (h : vDy p1) (hK : ∀ F G, (∀ j, j < 42 → F j = 0) → (∀ j, j < 42 → G j = 0) → K men p1 F G) : g_X7_ends mkd mrt mri mca mpr men mth mrq mtr mos mpF meF p1 K := by
  unfold g_X7_ends
  refine in_m1 h (yes1' ?_)
  refine ⟨fun n i F G => ∃ j, j ≤ 42 ∧ n = 43 - j ∧ i = nI j ∧ (∀ q, q < j → F q = 0) ∧ (∀ q, q < j → G q = 0), ⟨43, 0, by omega, rfl, rfl, fun q h => by omega, fun q h => by omega⟩, ?_, ?_⟩
  · rintro i F G ⟨j, h, h', -⟩
    omega
  · rintro n i F G ⟨j, hj, hn, rfl, h1, h2⟩
    refine ⟨fun c => ?_, fun c => ?_⟩
    · have c := (nI_leI (a := 42) (by omega) (by omega)).mp c
      exact hK F G (fun q hq => h1 q (by omega)) (fun q hq => h2 q (by omega))
    · have c : ¬ 42 ≤ j := fun z => c ((nI_leI (a := 42) (by omega) (by omega)).mpr z)
      refine ⟨vp_in_nI (by omega) (by omega), vp_in_nI (by omega) (by omega), j + 1, by omega, by omega, nI_1 _, fun q hq => ?_, fun q hq => ?_⟩
      · rw [nI_clamp (by omega)]
        by_cases z : q = j
        · rw [z, pk_us]
        · rw [pk_un z]; exact h1 q (by omega)
      · rw [nI_clamp (by omega)]
        by_cases z : q = j
        · rw [z, pk_us]
        · rw [pk_un z]; exact h2 q (by omega)
abbrev vSh (p : Int32) : Prop := (0 : Int32) ≤ p ∧ p ≤ (9 : Int32)
abbrev vWh (E : Nat) (p1 p2 : Int32) : Prop := (p1 = 0 → vPl E p2) ∧ (¬ p1 = 0 → vEn E p2)
def okS (E : Nat) (p1 p2 p3 : Int32) : Prop := vPa p1 ∧ vSh p3 ∧ vWh E p1 p2
section C8
variable {trc : Int64} {p1 p2 p3 : Int32} {opF oeF : Nat → Int32} {E : Nat} {K : Int32 → (Nat → Int32) → (Nat → Int32) → Prop}
theorem share_c0 (h : ¬ okS E p1 p2 p3) (hK : K (-1) opF oeF) : g_X6_share trc (nI E) opF oeF p1 p2 p3 K := by
  unfold g_X6_share
  refine in_c (fun h1 => yes1 (in_c (fun h3 => yes1' ?_) (fun _ => no0' hK))) (fun _ => no0 hK)
  exact ⟨vWh E p1 p2, fun h2 => absurd ⟨h1, h3, h2⟩ h, fun z => isEnd_c (fun y => yes1' ⟨fun q => absurd q z, fun _ => y⟩) (fun _ => no0' hK), fun z => isPlan_c (fun y => yes1' ⟨fun _ => y, fun q => absurd z q⟩) (fun _ => no0' hK)⟩
theorem share_cp {a : Nat} (a1 : 1 ≤ a) (a2 : a ≤ E + 1) (hE : E ≤ 40) (h3 : vSh p3) (hK : K (opF a) (upd opF a p3) oeF) : g_X6_share trc (nI E) opF oeF 0 (nI a) p3 K := by
  unfold g_X6_share
  refine in_c1 (by decide) (yes1 (in_c1 h3 (yes1' ⟨True, fun _ => ⟨fun z => absurd rfl z, fun _ => ?_⟩, fun z => absurd rfl z, fun _ => isPlan_c (fun _ => yes1' trivial) (fun z => absurd (nI_btw (a := 1) a1 a2 (by omega)) z)⟩)))
  unfold g_X2_replace
  rw [nI_clamp (by omega)]
  exact ⟨vp_in_nI (by omega) (by omega), vp_in_nI (by omega) (by omega), hK⟩
theorem share_ce {a : Nat} (h1 : vPa p1) (h0 : ¬ p1 = 0) (a1 : 1 ≤ a) (a2 : a ≤ E) (hE : E ≤ 40) (h3 : vSh p3) (hK : K (oeF a) opF (upd oeF a p3)) : g_X6_share trc (nI E) opF oeF p1 (nI a) p3 K := by
  unfold g_X6_share
  refine in_c1 h1 (yes1 (in_c1 h3 (yes1' ⟨True, fun _ => ⟨fun _ => ?_, fun z => absurd z h0⟩, fun _ => isEnd_c (fun _ => yes1' trivial) (fun z => absurd (nI_btw (a := 1) a1 a2 (by omega)) z), fun z => absurd z h0⟩)))
  unfold g_X2_replace
  rw [nI_clamp (by omega)]
  exact ⟨vp_in_nI (by omega) (by omega), vp_in_nI (by omega) (by omega), hK⟩
end C8
section M8
variable {mkd mrt mri mca mpr mth mrq mos p1 p2 p3 : Int32} {mtr : Int64} {mpF meF : Nat → Int32} {E : Nat} {K : Int32 → (Nat → Int32) → (Nat → Int32) → Prop}
theorem share_m0 (h : ¬ okS E p1 p2 p3) (hK : K (-1) mpF meF) : g_X7_share mkd mrt mri mca mpr (nI E) mth mrq mtr mos mpF meF p1 p2 p3 K := by
  unfold g_X7_share
  refine in_m (fun h1 => yes1 ?_) (fun _ => no0 hK)
  exact ⟨vWh E p1 p2, fun h2 => in_m (fun h3 => absurd ⟨h1, h3, h2⟩ h) (fun _ => no0' hK), fun z => isEnd_m (fun y => yes1 ⟨fun q => absurd q z, fun _ => y⟩) (fun _ => no0 hK), fun z => isPlan_m (fun y => yes1' ⟨fun _ => y, fun q => absurd z q⟩) (fun _ => no0' hK)⟩
theorem share_mp {a : Nat} (a1 : 1 ≤ a) (a2 : a ≤ E + 1) (hE : E ≤ 40) (h3 : vSh p3) (hK : K (mpF a) (upd mpF a p3) meF) : g_X7_share mkd mrt mri mca mpr (nI E) mth mrq mtr mos mpF meF 0 (nI a) p3 K := by
  unfold g_X7_share
  refine in_m1 (by decide) (yes1 ⟨True, fun _ => in_m1 h3 (yes1' ?_), fun z => absurd rfl z, fun _ => isPlan_m (fun _ => yes1' trivial) (fun z => absurd (nI_btw (a := 1) a1 a2 (by omega)) z)⟩)
  rw [nI_clamp (by omega)]
  refine ⟨fun t => t = mpF a, ?_, fun z => absurd rfl z, fun _ => ⟨vp_in_nI (by omega) (by omega), rfl⟩⟩
  rintro t rfl
  exact ⟨fun z => absurd rfl z, fun _ => ⟨vp_in_nI (by omega) (by omega), hK⟩⟩
theorem share_me {a : Nat} (h1 : vPa p1) (h0 : ¬ p1 = 0) (a1 : 1 ≤ a) (a2 : a ≤ E) (hE : E ≤ 40) (h3 : vSh p3) (hK : K (meF a) mpF (upd meF a p3)) : g_X7_share mkd mrt mri mca mpr (nI E) mth mrq mtr mos mpF meF p1 (nI a) p3 K := by
  unfold g_X7_share
  refine in_m1 h1 (yes1 ⟨True, fun _ => in_m1 h3 (yes1' ?_), fun _ => isEnd_m (fun _ => yes1 trivial) (fun z => absurd (nI_btw (a := 1) a1 a2 (by omega)) z), fun z => absurd z h0⟩)
  rw [nI_clamp (by omega)]
  refine ⟨fun t => t = meF a, ?_, fun _ => ⟨vp_in_nI (by omega) (by omega), rfl⟩, fun z => absurd z h0⟩
  rintro t rfl
  exact ⟨fun _ => ⟨vp_in_nI (by omega) (by omega), hK⟩, fun z => absurd z h0⟩
end M8
theorem SH.put {E a v : Nat} {o : Nat → Nat} {F : Nat → Int32} (h : SH E o F) (a1 : 1 ≤ a) (a2 : a ≤ E) (hv : v ≤ 9) : SH E (fun j => if j = a then v else o j) (upd F a (nI v)) := by
  refine ⟨fun j hj => ?_, fun j => ?_, ?_, fun j hj => ?_⟩
  · show upd F a (nI v) j = nI (if j = a then v else o j)
    by_cases z : j = a
    · rw [z, pk_us, if_pos rfl]
    · rw [pk_un z, if_neg z]; exact h.1 j hj
  · have := h.2.1 j
    show (if j = a then v else o j) ≤ 9
    split <;> omega
  · show (if 0 = a then v else o 0) = 0
    rw [if_neg (by omega)]; exact h.2.2.1
  · show (if j = a then v else o j) = 0
    rw [if_neg (by omega)]; exact h.2.2.2 j hj
theorem SH.zero {E : Nat} {F : Nat → Int32} (h : ∀ j, j < 42 → F j = 0) : SH E (fun _ => 0) F := ⟨fun j hj => h j hj, fun _ => Nat.zero_le 9, rfl, fun _ _ => rfl⟩
