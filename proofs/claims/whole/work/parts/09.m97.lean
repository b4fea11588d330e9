/-! ===== the law: class and reference side by side ===== -/
theorem same1 {r : Int32} {A : Prop} (h : A) : (r = r → A) ∧ (¬ r = r → False) := ⟨fun _ => h, fun g => g rfl⟩
theorem same3 {r r' : Int32} {A : Prop} (e : r = r') (h : A) : (r = r' → A) ∧ (¬ r = r' → False) := ⟨fun _ => h, fun g => g e⟩
theorem same2 {r : Int64} {A : Prop} (h : A) : (lg_cmp r r = 0 → A) ∧ (¬ lg_cmp r r = 0 → False) := ⟨fun _ => h, fun g => g ((lg_cmp_eq r r).mpr rfl)⟩
/-- offers, ends, shares -/
def RO (days : Int32) (tkk : Nat) (tkd tkp tkr tkc : Int32) (rsF opF oeF : Nat → Int32) (mkd mrt mri mca mpr men : Int32) (mpF meF : Nat → Int32) : Prop := ∃ (k dr ri ca pr E : Nat) (o f : Nat → Nat), OF k dr ri ca pr ∧ 1 ≤ E ∧ E ≤ 40 ∧ days = nI E ∧ men = nI E ∧ CT k dr ri ca pr tkk tkd tkp tkr tkc ∧ (∀ j, j ≤ 40 → rsF j = nI (RS k dr ri ca j)) ∧ MO k dr ri ca pr mkd mrt mri mca mpr ∧ SH (E + 1) o opF ∧ SH (E + 1) o mpF ∧ SH E f oeF ∧ SH E f meF
/-- the list -/
def RT (thg req ocn : Int32) (akF osF : Nat → Int32) (mth mrq : Int32) (mqF : Nat → Int32) : Prop := ∃ (t q : Nat) (a : Nat → Nat), 1 ≤ t ∧ t ≤ 4 ∧ q ≤ 16 ∧ thg = nI t ∧ mth = nI t ∧ req = nI q ∧ mrq = nI q ∧ AK t q a akF ∧ AK t q a mqF ∧ OR t ocn osF
theorem AK.put {t q x : Nat} {a : Nat → Nat} {F : Nat → Int32} (h : AK t q a F) (hx : x < t) : AK t (q + 1) (fun j => if j = q then x else a j) (upd F q (nI x)) := by
  intro j hj
  show upd F q (nI x) j = nI (if j = q then x else a j) ∧ (if j = q then x else a j) < t
  by_cases z : j = q
  · rw [z, pk_us, if_pos rfl]; exact ⟨rfl, hx⟩
  · rw [pk_un z, if_neg z]; exact h j (by omega)
set_option maxHeartbeats 4000000 in
set_option maxRecDepth 100000 in
theorem law_pure {L : Nat} (hL : L ≤ 3072) (xs : Nat → Int32) : g_law L xs := by
  unfold g_law g_X6_init
  refine plansInit_c (fun R0 hR0 => ?_)
  unfold g_X2_init g_X5_init
  refine findOrders_c (t := 3) (by omega) (by omega) (fun n0 O0 hO0 => ?_)
  unfold g_X7_init
  refine ⟨fun n i trc days tkk tkd tkp tkr tkc rsF opF oeF thg req ocn akF osF leF mkd mrt mri mca mpr men mth mrq mtr mos mpF meF mqF mrF moF mlF mtF mfF => ∃ z, i = nI (6 * z) ∧ z ≤ 512 ∧ n + z = 600 ∧ RO days tkk tkd tkp tkr tkc rsF opF oeF mkd mrt mri mca mpr men mpF meF ∧ RT thg req ocn akF osF mth mrq mqF ∧ trc = mtr, ?_, ?_, ?_⟩
  · refine ⟨0, rfl, by omega, rfl, ⟨0, 1, 0, 1, 10, 20, fun _ => 0, fun _ => 0, ⟨by omega, by omega, by omega, by omega, by omega, by omega, by omega, by omega⟩, by omega, by omega, rfl, rfl, ⟨rfl, rfl, rfl, fun h => by omega, fun h => by omega⟩, hR0, ⟨rfl, rfl, fun h => by omega, fun h => by omega, rfl⟩, SH.zero (fun _ _ => rfl), SH.zero (fun _ _ => rfl), SH.zero (fun _ _ => rfl), SH.zero (fun _ _ => rfl)⟩, ⟨3, 0, fun _ => 0, by omega, by omega, by omega, rfl, rfl, rfl, rfl, fun j hj => by omega, fun j hj => by omega, hO0⟩, rfl⟩
  · rintro i trc days tkk tkd tkp tkr tkc rsF opF oeF thg req ocn akF osF leF mkd mrt mri mca mpr men mth mrq mtr mos mpF meF mqF mrF moF mlF mtF mfF ⟨z, -, h1, h2, -⟩
    omega
  · rintro n i trc days tkk tkd tkp tkr tkc rsF opF oeF thg req ocn akF osF leF mkd mrt mri mca mpr men mth mrq mtr mos mpF meF mqF mrF moF mlF mtF mfF ⟨z, rfl, hz, hn, hro, hrt, rfl⟩
    have e6 : nI (6 * z) + 6 = nI (6 * (z + 1)) := nI_add (6 * z) 6
    have hsub : (Int32.ofNat L - (6 : Int32)).toInt = (L : Int) - 6 := pk_sub_toInt (a := L) (b := 6) (by omega) (by omega)
    refine ⟨fun _ => trivial, fun c => ?_⟩
    have hin : 6 * z + 6 ≤ L := by
      rw [Int32.lt_iff_toInt_lt, hsub, nI_toInt (by omega)] at c
      omega
    have hv : ∀ j, j < 6 → vp_in (nI (6 * z) + nI j) L := fun j hj => by rw [nI_add]; exact vp_in_nI (by omega) (by omega)
    have v1 : vp_in (nI (6 * z) + 1) L := hv 1 (by omega)
    have v2 : vp_in (nI (6 * z) + 2) L := hv 2 (by omega)
    have v3 : vp_in (nI (6 * z) + 3) L := hv 3 (by omega)
    have v4 : vp_in (nI (6 * z) + 4) L := hv 4 (by omega)
    have v5 : vp_in (nI (6 * z) + 5) L := hv 5 (by omega)
    generalize xs (nI (6 * z) + 1).toNatClampNeg = p1
    generalize xs (nI (6 * z) + 2).toNatClampNeg = p2
    generalize xs (nI (6 * z) + 3).toNatClampNeg = p3
    generalize xs (nI (6 * z) + 4).toNatClampNeg = p4
    generalize xs (nI (6 * z) + 5).toNatClampNeg = p5
    refine ⟨vp_in_nI (by omega) (by omega), fun x33 _ => ?_⟩
    obtain ⟨k, dr, ri, ca, pr, E, o, f, ho, hE1, hE, rfl, rfl, ht, hr, hm, s1, s2, s3, s4⟩ := id hro
    obtain ⟨t, q, a, t1, t4, hq, rfl, rfl, rfl, rfl, ha1, ha2, hor⟩ := id hrt
    have hb := ho.rb
    have hc : CR (RS k dr ri ca) pr rsF tkp := ⟨hr, ht.2.2.1⟩
    refine ⟨fun _ => ?_, fun _ => ?_⟩
    · refine ⟨v1, v2, v3, v4, v5, ?_⟩
      by_cases h : ∃ k dr ri ca pr, OKO k dr ri ca pr p1 p2 p3 p4 p5
      · obtain ⟨k', dr', ri', ca', pr', hk⟩ := h
        refine offer_c1 hE1 hE hk (hr 0 (by omega)) (fun tr tc F e1 e2 hF => ⟨v1, v2, v3, v4, v5, offer_m1 hE hk (same1 ?_)⟩)
        obtain ⟨ho', q1, q2, q3, q4, q5⟩ := hk
        exact ⟨z + 1, e6, by omega, by omega, ⟨k', dr', ri', ca', pr', E, o, f, ho', hE1, hE, rfl, rfl, ⟨rfl, rfl, rfl, e1, e2⟩, hF, ⟨q1, q2, q3, q4, q5⟩, s1, s2, s3, s4⟩, hrt, rfl⟩
      · exact offer_c0 h ⟨v1, v2, v3, v4, v5, offer_m0 h (same1 ⟨z + 1, e6, by omega, by omega, hro, hrt, rfl⟩)⟩
    refine ⟨fun _ => ?_, fun _ => ?_⟩
    · refine ⟨v1, ?_⟩
      by_cases h : vDy p1
      · refine ends_c1 h (fun F G f1 f2 => ⟨v1, ends_m1 h (fun F2 G2 f3 f4 => same1 ?_)⟩)
        obtain ⟨e, e1, e2, e3⟩ := vDy_of h
        exact ⟨z + 1, e6, by omega, by omega, ⟨k, dr, ri, ca, pr, e, fun _ => 0, fun _ => 0, ho, e1, e2, e3, e3, ht, hr, hm, SH.zero f1, SH.zero f3, SH.zero f2, SH.zero f4⟩, hrt, rfl⟩
      · exact ends_c0 h ⟨v1, ends_m0 h (same1 ⟨z + 1, e6, by omega, by omega, hro, hrt, rfl⟩)⟩
    refine ⟨fun _ => ?_, fun _ => ?_⟩
    · refine ⟨v1, ?_⟩
      exact rent_c ho ht ⟨v1, rent_m ho hm (same1 ⟨z + 1, e6, by omega, by omega, hro, hrt, rfl⟩)⟩
    refine ⟨fun _ => ?_, fun _ => ?_⟩
    · refine ⟨v1, v2, ?_⟩
      exact cost_c hE hb hc ⟨v1, v2, cost_m hE ho hm (same1 ⟨z + 1, e6, by omega, by omega, hro, hrt, rfl⟩)⟩
    refine ⟨fun _ => ?_, fun _ => ?_⟩
    · refine ⟨v1, ?_⟩
      exact known_c hE hb hc ⟨v1, known_m hE ho hm (same1 ⟨z + 1, e6, by omega, by omega, hro, hrt, rfl⟩)⟩
    refine ⟨fun _ => ?_, fun _ => ?_⟩
    · refine ⟨v1, v2, v3, ?_⟩
      exact ratio_c hE1 hE hb hc ⟨v1, v2, v3, ratio_m hE1 hE ho hm (same1 ⟨z + 1, e6, by omega, by omega, hro, hrt, rfl⟩)⟩
    refine ⟨fun _ => ?_, fun _ => ?_⟩
    · exact sure_c hE1 hE hb hc (sure_m hE1 hE ho hm (same1 ⟨z + 1, e6, by omega, by omega, hro, hrt, rfl⟩))
    refine ⟨fun _ => ?_, fun _ => ?_⟩
    · refine ⟨v1, v2, v3, ?_⟩
      by_cases h : okS E p1 p2 p3
      · obtain ⟨w1, w3, w2⟩ := h
        obtain ⟨v, -, vb, rfl⟩ := rng (a := 0) (b := 9) (by omega) (by omega) w3.1 w3.2
        by_cases g : p1 = 0
        · subst g
          obtain ⟨b, b1, b2, rfl⟩ := vPl_of hE (w2.1 rfl)
          exact share_cp b1 b2 hE w3 ⟨v1, v2, v3, share_mp b1 b2 hE w3 (same3 (by rw [s1.1 b (by omega), s2.1 b (by omega)]) ⟨z + 1, e6, by omega, by omega, ⟨k, dr, ri, ca, pr, E, _, f, ho, hE1, hE, rfl, rfl, ht, hr, hm, s1.put b1 b2 vb, s2.put b1 b2 vb, s3, s4⟩, hrt, rfl⟩)⟩
        · obtain ⟨b, b1, b2, rfl⟩ := vEn_of hE (w2.2 g)
          exact share_ce w1 g b1 b2 hE w3 ⟨v1, v2, v3, share_me w1 g b1 b2 hE w3 (same3 (by rw [s3.1 b (by omega), s4.1 b (by omega)]) ⟨z + 1, e6, by omega, by omega, ⟨k, dr, ri, ca, pr, E, o, _, ho, hE1, hE, rfl, rfl, ht, hr, hm, s1, s2, s3.put b1 b2 vb, s4.put b1 b2 vb⟩, hrt, rfl⟩)⟩
      · exact share_c0 h ⟨v1, v2, v3, share_m0 h (same1 ⟨z + 1, e6, by omega, by omega, hro, hrt, rfl⟩)⟩
    refine ⟨fun _ => ?_, fun _ => ?_⟩
    · refine ⟨v1, v2, ?_⟩
      exact mean_c hE hb hc s1 ⟨v1, v2, mean_m hE ho hm s2 (same2 ⟨z + 1, e6, by omega, by omega, hro, hrt, rfl⟩)⟩
    refine ⟨fun _ => ?_, fun _ => ?_⟩
    · refine ⟨v1, ?_⟩
      exact bound_c hE1 hE hb hc s1 s3 ⟨v1, bound_m hE1 hE ho hm s2 s4 (same1 ⟨z + 1, e6, by omega, by omega, hro, hrt, rfl⟩)⟩
    refine ⟨fun _ => ?_, fun _ => ?_⟩
    · refine ⟨v1, v2, ?_⟩
      exact guess_c hE1 hE hb hc ⟨v1, v2, guess_m hE1 hE ho hm (same1 ⟨z + 1, e6, by omega, by omega, hro, hrt, rfl⟩)⟩
    refine ⟨fun _ => ?_, fun _ => ?_⟩
    · refine ⟨v1, v2, v3, v4, ?_⟩
      exact trust_c hE1 hE hb hc ⟨v1, v2, v3, v4, trust_m hE1 hE ho hm (same1 ⟨z + 1, e6, by omega, by omega, hro, hrt, rfl⟩)⟩
    refine ⟨fun _ => ?_, fun _ => ?_⟩
    · refine ⟨v1, ?_⟩
      by_cases h : (1 : Int32) ≤ p1 ∧ p1 ≤ 4
      · obtain ⟨d, d1, d2, rfl⟩ := rng (a := 1) (b := 4) (by omega) (by omega) h.1 h.2
        exact list_c1 d1 d2 (fun m F hF => ⟨v1, list_m1 d1 d2 (same1 ⟨z + 1, e6, by omega, by omega, hro, ⟨d, 0, fun _ => 0, d1, d2, by omega, rfl, rfl, rfl, rfl, fun j hj => by omega, fun j hj => by omega, hF⟩, rfl⟩)⟩)
      · exact list_c0 h ⟨v1, list_m0 h (same1 ⟨z + 1, e6, by omega, by omega, hro, hrt, rfl⟩)⟩
    refine ⟨fun _ => ?_, fun _ => ?_⟩
    · refine ⟨v1, ?_⟩
      refine request_c t1 t4 hq (fun h => ⟨v1, request_m t1 t4 hq (fun _ => same1 ⟨z + 1, e6, by omega, by omega, hro, hrt, rfl⟩) (fun g => absurd g h) (fun g => absurd g h)⟩) (fun h h2 => ⟨v1, request_m t1 t4 hq (fun g => absurd h g) (fun _ _ => same1 ⟨z + 1, e6, by omega, by omega, hro, hrt, rfl⟩) (fun _ g => absurd g h2)⟩) (fun h h2 => ⟨v1, request_m t1 t4 hq (fun g => absurd h g) (fun _ g => absurd h2 g) (fun _ _ => same1 ?_)⟩)
      obtain ⟨x, -, x2, rfl⟩ := rng (a := 0) (b := t - 1) (by omega) (by omega) h.1 h.2
      exact ⟨z + 1, e6, by omega, by omega, hro, ⟨t, q + 1, _, t1, t4, by omega, rfl, rfl, rfl, rfl, ha1.put (by omega), ha2.put (by omega), hor⟩, rfl⟩
    refine ⟨fun _ => ?_, fun _ => ?_⟩
    · exact drop_c hq (fun h => drop_m hq (fun _ => same1 ⟨z + 1, e6, by omega, by omega, hro, hrt, rfl⟩) (fun g => absurd h g)) (fun h => drop_m hq (fun g => absurd g h) (fun _ => same1 ⟨z + 1, e6, by omega, by omega, hro, ⟨t, q - 1, a, t1, t4, by omega, rfl, rfl, rfl, rfl, fun j hj => ha1 j (by omega), fun j hj => ha2 j (by omega), hor⟩, rfl⟩))
    refine ⟨fun _ => ?_, fun _ => ?_⟩
    · refine ⟨v1, ?_⟩
      exact serve_c t1 t4 hq ha1 hor (fun F => ⟨v1, serve_m t1 t4 hq ha2 (fun _ _ _ _ _ _ => same1 ⟨z + 1, e6, by omega, by omega, hro, hrt, rfl⟩)⟩)
    refine ⟨fun _ => ?_, fun _ => ?_⟩
    · refine ⟨v1, ?_⟩
      exact at_c t1 t4 hq ha1 ⟨v1, at_m t1 t4 hq ha2 (fun _ => same1 ⟨z + 1, e6, by omega, by omega, hro, hrt, rfl⟩)⟩
    refine ⟨fun _ => ?_, fun _ => ?_⟩
    · refine ⟨v1, ?_⟩
      rw [hm.1]
      exact count_c ho.1 ht ⟨v1, count_m (same1 (by rw [← hm.1]; exact ⟨z + 1, e6, by omega, by omega, hro, hrt, rfl⟩))⟩
    refine ⟨fun _ => ?_, fun _ => ?_⟩
    · unfold g_X6_trace g_X7_trace
      exact same2 ⟨z + 1, e6, by omega, by omega, hro, hrt, rfl⟩
    exact ⟨z + 1, e6, by omega, by omega, hro, hrt, rfl⟩
