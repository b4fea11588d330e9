/-! ===== serve, at, list, request, drop, count ===== -/
def serS (t : Nat) (a : Nat → Nat) (q : Nat) (p : Int32) : Int32 := if p = 0 then nI (fC t a q) else if p = 1 then nI (sC t a (fo t) q) else if p = 2 then nI (mnF (fun i => sC t a (oC t i) q) 1000000 (oN t)) else if p = 3 then nI (mnF (fun i => Lv t a q (oC t i)) 1000000 (oN t)) else -1
def couS (k E t q : Nat) (p : Int32) : Int32 := if p = 0 then nI E else if p = 1 then nI k else if p = 2 then nI t else if p = 3 then nI q else -1
abbrev vAt (t : Nat) (p : Int32) : Prop := (1 : Int32) ≤ p ∧ p ≤ nI t
def atS (t : Nat) (a : Nat → Nat) (q : Nat) (p : Int32) : Int32 := if vAt t p then nI (tA (fr t a q) (p.toNatClampNeg - 1)) else -1
section C96
variable {trc : Int64} {ocn p1 : Int32} {t q : Nat} {a : Nat → Nat} {akF osF leF : Nat → Int32}
theorem serve_c (h1 : 1 ≤ t) (h4 : t ≤ 4) (hq : q ≤ 16) (ha : AK t q a akF) (hr : OR t ocn osF) {K : Int32 → (Nat → Int32) → Prop} (hK : ∀ F, K (serS t a q p1) F) : g_X6_serve trc (nI t) (nI q) ocn akF osF leF p1 K := by
  unfold serS at hK
  unfold g_X6_serve
  refine ⟨fun z => ?_, fun z => ⟨fun y => ?_, fun y => ⟨fun x => ?_, fun x => ⟨fun w => ?_, fun w => ?_⟩⟩⟩⟩
  · rw [if_pos z] at hK
    exact frontCost_c h1 h4 hq ha (hK leF)
  · rw [if_neg z, if_pos y] at hK
    exact firstOrder_c h4 (stayCost_c h1 h4 hq ha (f_lt h1 h4 _ (f_fo h1 h4).1) (hK leF))
  · rw [if_neg z, if_neg y, if_pos x] at hK
    exact bestStayCost_c h1 h4 hq ha hr (hK leF)
  · rw [if_neg z, if_neg y, if_neg x, if_pos w] at hK
    exact bestCost_c h1 h4 hq ha hr (fun F => hK F)
  · rw [if_neg z, if_neg y, if_neg x, if_neg w] at hK
    exact hK leF
theorem at_c (h1 : 1 ≤ t) (h4 : t ≤ 4) (hq : q ≤ 16) (ha : AK t q a akF) {K : Int32 → Prop} (hK : K (atS t a q p1)) : g_X6_at trc (nI t) (nI q) ocn akF p1 K := by
  unfold atS at hK
  unfold g_X6_at
  refine in_c (fun h => yes1' ?_) (fun h => no0' ?_)
  · rw [if_pos h] at hK
    obtain ⟨d, d1, d2, rfl⟩ := rng (a := 1) (b := t) (by omega) (by omega) h.1 h.2
    rw [nI_clamp (by omega)] at hK
    refine frontOrder_c h1 h4 hq ha ?_
    rw [show nI d - 1 = nI (d - 1) from pk_sub (b := 1) d1]
    exact thingAt_c (f_lt h1 h4 _ (fr_in h1 h4 q (fun j hj => (ha j hj).2))) (by omega) hK
  · rw [if_neg h] at hK; exact hK
theorem count_c {tkd tkp tkr tkc : Int32} {tkk k dr ri ca pr E : Nat} (hk : k ≤ 2) (ht : CT k dr ri ca pr tkk tkd tkp tkr tkc) {K : Int32 → Prop} (hK : K (couS k E t q p1)) : g_X6_count trc (nI E) tkk tkd tkp tkr tkc (nI t) (nI q) ocn p1 K := by
  obtain ⟨rfl, -⟩ := ht
  unfold couS at hK
  have key : ∀ r : Int32, r = nI tkk → ((p1 = 0 → K (nI E)) ∧ (¬ p1 = 0 → ((p1 = 1 → K r) ∧ (¬ p1 = 1 → ((p1 = 2 → K (nI t)) ∧ (¬ p1 = 2 → ((p1 = 3 → K (nI q)) ∧ (¬ p1 = 3 → K (-1 : Int32))))))))) := by
    rintro r rfl
    refine ⟨fun z => ?_, fun z => ⟨fun y => ?_, fun y => ⟨fun x => ?_, fun x => ⟨fun w => ?_, fun w => ?_⟩⟩⟩⟩
    · rw [if_pos z] at hK; exact hK
    · rw [if_neg z, if_pos y] at hK; exact hK
    · rw [if_neg z, if_neg y, if_pos x] at hK; exact hK
    · rw [if_neg z, if_neg y, if_neg x, if_pos w] at hK; exact hK
    · rw [if_neg z, if_neg y, if_neg x, if_neg w] at hK; exact hK
  unfold g_X6_count
  refine ⟨fun z => ?_, fun z => ?_, fun z y => ?_⟩
  · unfold g_X6_count_k0 g_X1_kindNumber_k0
    exact key 0 (by rw [z]; rfl)
  · unfold g_X6_count_k1 g_X4_kindNumber_k1
    exact key 1 (by rw [z]; rfl)
  · unfold g_X6_count_k2 g_X0_kindNumber_k2
    exact key 2 (by rw [show tkk = 2 by omega]; rfl)
theorem list_c0 {thg req : Int32} {K : Int32 → Int32 → Int32 → Int32 → (Nat → Int32) → Prop} (h : ¬ ((1 : Int32) ≤ p1 ∧ p1 ≤ 4)) (hK : K (-1) thg req ocn osF) : g_X6_list trc thg req ocn osF p1 K := by
  unfold g_X6_list
  exact in_c (fun z => absurd z h) (fun _ => no0' hK)
theorem list_c1 {thg req : Int32} {d : Nat} (d1 : 1 ≤ d) (d2 : d ≤ 4) {K : Int32 → Int32 → Int32 → Int32 → (Nat → Int32) → Prop} (hK : ∀ n F, OR d n F → K thg (nI d) (nI 0) n F) : g_X6_list trc thg req ocn osF (nI d) K := by
  unfold g_X6_list
  refine in_c1 (nI_btw (a := 1) (b := 4) d1 d2 (by omega)) (yes1' ?_)
  unfold g_X5_restart
  exact findOrders_c d1 d2 hK
theorem request_c {K : Int32 → Int32 → (Nat → Int32) → Prop} (h1 : 1 ≤ t) (h4 : t ≤ 4) (hq : q ≤ 16) (hb : ¬ ((0 : Int32) ≤ p1 ∧ p1 ≤ nI (t - 1)) → K (-1) (nI q) akF) (hf : (0 : Int32) ≤ p1 ∧ p1 ≤ nI (t - 1) → ¬ q < 16 → K (-3) (nI q) akF) (hk : (0 : Int32) ≤ p1 ∧ p1 ≤ nI (t - 1) → q < 16 → K (nI (q + 1)) (nI (q + 1)) (upd akF q p1)) : g_X6_request trc (nI t) (nI q) ocn akF p1 K := by
  unfold g_X6_request
  rw [show nI t - 1 = nI (t - 1) from pk_sub (b := 1) h1]
  refine in_c (fun h => yes1' ⟨fun z => ?_, fun z => ?_⟩) (fun h => no0' (hb h))
  · have z := (nI_ltI (b := 16) (by omega) (by omega)).mp z
    rw [nI_clamp (by omega), nI_1]
    exact ⟨vp_in_nI (by omega) (by omega), hk h z⟩
  · exact hf h (fun y => z ((nI_ltI (b := 16) (by omega) (by omega)).mpr y))
theorem drop_c {thg : Int32} {K : Int32 → Int32 → Prop} (hq : q ≤ 16) (h0 : q = 0 → K (-2) (nI q)) (h1 : ¬ q = 0 → K (nI (q - 1)) (nI (q - 1))) : g_X6_drop trc thg (nI q) ocn K := by
  unfold g_X6_drop
  refine ⟨fun z => ?_, fun z => h0 ((nI_eq (b := 0) (by omega) (by omega)).mp z)⟩
  have z : ¬ q = 0 := fun y => z (by rw [y]; rfl)
  rw [show nI q - 1 = nI (q - 1) from pk_sub (b := 1) (by omega)]
  exact h1 z
end C96
section M96
variable {mkd mrt mri mca mpr men mos p1 : Int32} {mtr : Int64} {t q : Nat} {a : Nat → Nat} {mqF mrF moF mlF mtF mfF : Nat → Int32}
theorem serve_m (h1 : 1 ≤ t) (h4 : t ≤ 4) (hq : q ≤ 16) (ha : AK t q a mqF) {K : Int32 → Int32 → (Nat → Int32) → (Nat → Int32) → (Nat → Int32) → (Nat → Int32) → (Nat → Int32) → Prop} (hK : ∀ n A B C D E, K (serS t a q p1) n A B C D E) : g_X7_serve mkd mrt mri mca mpr men (nI t) (nI q) mtr mos mqF mrF moF mlF mtF mfF p1 K := by
  have hn := f_nn h1 h4
  unfold serS at hK
  unfold g_X7_serve
  refine in_m (fun h => yes1' ⟨fun z => ?_, fun z => ?_⟩) (fun h => no0' ?_)
  · obtain ⟨d, -, d2, rfl⟩ := rng (a := 0) (b := 3) (by omega) (by omega) h.1 h.2
    rw [if_neg z] at hK
    refine ordersOf_m h1 h4 (fun G hG => ?_)
    have hsb : ∀ u, u < oN t → sC t a (oC t u) q ≤ 64 := fun u hu => Nat.le_trans (sC_b h1 h4 (hn.2.2.1 u hu) q (fun j hj => (ha j hj).2)) (by omega)
    refine ⟨fun n b s i => ∃ u, u ≤ oN t ∧ n = oN t - u + 1 ∧ i = nI u ∧ (u = 0 ∧ b = -1 ∨ 1 ≤ u ∧ b = nI (mnF (fun i => sC t a (oC t i) q) 1000000 u)) ∧ (∀ j, j < u → oC t j = fo t → s = nI (sC t a (fo t) q)), ⟨oN t + 1, 0, by omega, by omega, rfl, Or.inl ⟨rfl, rfl⟩, fun j hj => by omega⟩, ?_, ?_⟩
    · rintro b s i ⟨u, h, h', -⟩
      omega
    · rintro n b s i ⟨u, hu, hn2, rfl, hb, hs⟩
      refine ⟨fun y => ?_, fun y => ?_⟩
      · have y := (nI_leI (by omega) (by omega)).mp y
        have : u = oN t := by omega
        subst this
        refine ⟨fun x => ⟨fun w => ?_, fun w => ?_⟩, fun x => ?_⟩
        · have hd : d = 3 := by
            have a0 : ¬ d = 0 := fun e => z (by rw [e]; rfl)
            have a1 : ¬ d = 1 := fun e => x (by rw [e]; rfl)
            have a2 : ¬ d = 2 := fun e => w (by rw [e]; rfl)
            omega
          rw [if_neg x, if_neg w, if_pos (by rw [hd]; rfl)] at hK
          exact bestCost_m h1 h4 hG hq ha (fun A B C => hK _ _ _ _ _ _)
        · rw [if_neg x, if_pos w] at hK
          rcases hb with ⟨e, -⟩ | ⟨-, e⟩
          · omega
          · rw [e]; exact hK _ _ _ _ _ _
        · rw [if_pos x] at hK
          obtain ⟨j, hj, e⟩ := hn.2.2.2 _ (f_fo h1 h4).1
          rw [hs j hj e]
          exact hK _ _ _ _ _ _
      · have y : ¬ oN t ≤ u := fun x => y ((nI_leI (by omega) (by omega)).mpr x)
        have hcu := hn.2.2.1 u (by omega)
        have hif := f_if h1 h4 _ hcu
        have hsu := hsb u (by omega)
        have hmm := (mnF_le (f := fun i => sC t a (oC t i) q) (b := 1000000) u).1
        have hms : mnF (fun i => sC t a (oC t i) q) 1000000 (u + 1) = if sC t a (oC t u) q < mnF (fun i => sC t a (oC t i) q) 1000000 u then sC t a (oC t u) q else mnF (fun i => sC t a (oC t i) q) 1000000 u := rfl
        refine staysCost_m h1 h4 hG hq ha (by omega) ?_
        refine ⟨fun n v i => ∃ j, j ≤ t ∧ n = t - j + 1 ∧ v = bI (iF (oC t u) j) ∧ i = nI j, ⟨t + 1, 0, by omega, by omega, rfl, rfl⟩, ?_, ?_⟩
        · rintro v i ⟨j, h, h', -⟩
          omega
        · rintro n3 v i ⟨j, hj, hn3, rfl, rfl⟩
          refine ⟨fun x => ?_, fun x => ?_⟩
          · have x := (nI_leI (by omega) (by omega)).mp x
            have : j = t := by omega
            subst this
            refine ⟨fun v => ∀ w, w < u + 1 → oC j w = fo j → v = nI (sC j a (fo j) q), ?_, fun w => ?_, fun w => ?_⟩
            · intro v hv
              refine ⟨fun v => v = nI (mnF (fun i => sC j a (oC j i) q) 1000000 (u + 1)), ?_, nI (sC j a (oC j u) q) = nI (mnF (fun i => sC j a (oC j i) q) 1000000 (u + 1)), fun e => e, ?_⟩
              · rintro v2 rfl
                exact ⟨u + 1, by omega, by omega, nI_1 _, Or.inr ⟨by omega, rfl⟩, hv⟩
              · rcases hb with ⟨e, rfl⟩ | ⟨e, rfl⟩
                · refine ⟨fun _ => ?_, fun g => absurd (by decide) g⟩
                  subst e
                  rw [hms, if_pos (by show _ < 1000000; omega)]
                · refine ⟨fun g => absurd g (nI_pos (by omega)), fun _ => ⟨fun g => ?_, fun g => ?_⟩⟩
                  · have g := (nI_leI (by omega) (by omega)).mp g
                    show nI _ = nI _
                    rw [hms, if_neg (by omega)]
                  · have g : ¬ mnF (fun i => sC j a (oC j i) q) 1000000 u ≤ sC j a (oC j u) q := fun e => g ((nI_leI (by omega) (by omega)).mpr e)
                    rw [hms, if_pos (by omega)]
            · have w := bI_0.mp w
              rw [hif] at w
              intro r hr e
              refine hs r ?_ e
              by_cases g : r = u
              · rw [g] at e; exact absurd e (of_decide_eq_false w)
              · omega
            · have w : oC j u = fo j := by
                by_cases g : oC j u = fo j
                · exact g
                · exact absurd (by rw [hif, decide_eq_false g]; rfl) w
              intro r hr e
              rw [w]
          · have x : ¬ t ≤ j := fun w => x ((nI_leI (by omega) (by omega)).mpr w)
            have hdg := f_dg h1 h4 _ hcu j (by omega)
            have hfs : iF (oC t u) (j + 1) = (iF (oC t u) j && decide (tA (oC t u) j = j)) := rfl
            refine ⟨fun v => v = bI (iF (oC t u) (j + 1)), ?_, iF (oC t u) (j + 1) = false, fun w => ?_, fun w => ?_, fun w => ?_⟩
            · rintro v rfl
              exact ⟨j + 1, by omega, by omega, rfl, nI_1 _⟩
            · show (0 : Int32) = bI _
              rw [w]; rfl
            · rw [hfs, bI_0.mp w]; rfl
            · have w : iF (oC t u) j = true := by
                cases hb : iF (oC t u) j with
                | true => rfl
                | false => exact absurd (by rw [hb]; rfl) w
              rw [ix4, nI_clamp (by omega), hG u (by omega) j (by omega)]
              refine ⟨vp_in_nI (by omega) (by omega), fun g => ?_, fun g => ?_⟩
              · rw [hfs, decide_eq_false (fun e => g (by rw [e])), Bool.and_false]
              · have g := (nI_eq (by omega) (by omega)).mp g
                show (1 : Int32) = bI _
                rw [hfs, w, decide_eq_true g]; rfl
  · rw [if_pos z] at hK
    exact frontCost_m h1 h4 hq ha (fun F _ => hK _ _ _ _ _ _)
  · have e : ∀ d : Nat, d ≤ 3 → ¬ p1 = nI d := fun d hd g => h (by rw [g]; exact nI_btw (a := 0) (b := 3) (by omega) hd (by omega))
    rw [if_neg (show ¬ p1 = 0 from e 0 (by omega)), if_neg (show ¬ p1 = 1 from e 1 (by omega)), if_neg (show ¬ p1 = 2 from e 2 (by omega)), if_neg (show ¬ p1 = 3 from e 3 (by omega))] at hK
    exact hK _ _ _ _ _ _
theorem at_m (h1 : 1 ≤ t) (h4 : t ≤ 4) (hq : q ≤ 16) (ha : AK t q a mqF) {K : Int32 → (Nat → Int32) → Prop} (hK : ∀ F, K (atS t a q p1) F) : g_X7_at mkd mrt mri mca mpr men (nI t) (nI q) mtr mos mqF mrF p1 K := by
  unfold atS at hK
  unfold g_X7_at
  refine in_m (fun h => yes1' ?_) (fun h => no0' ?_)
  · rw [if_pos h] at hK
    obtain ⟨d, d1, d2, rfl⟩ := rng (a := 1) (b := t) (by omega) (by omega) h.1 h.2
    rw [nI_clamp (by omega)] at hK
    refine frontCost_m h1 h4 hq ha (fun F hF => ?_)
    rw [show nI d - 1 = nI (d - 1) from pk_sub (b := 1) d1, nI_clamp (by omega), hF (d - 1) (by omega)]
    exact ⟨vp_in_nI (by omega) (by omega), hK F⟩
  · rw [if_neg h] at hK; exact hK _
theorem count_m {E k : Nat} {K : Int32 → Prop} (hK : K (couS k E t q p1)) : g_X7_count (nI k) mrt mri mca mpr (nI E) (nI t) (nI q) mtr mos p1 K := by
  unfold couS at hK
  unfold g_X7_count
  refine ⟨fun z => ?_, fun z => ⟨fun y => ?_, fun y => ⟨fun x => ?_, fun x => ⟨fun w => ?_, fun w => ?_⟩⟩⟩⟩
  · rw [if_pos z] at hK; exact hK
  · rw [if_neg z, if_pos y] at hK; exact hK
  · rw [if_neg z, if_neg y, if_pos x] at hK; exact hK
  · rw [if_neg z, if_neg y, if_neg x, if_pos w] at hK; exact hK
  · rw [if_neg z, if_neg y, if_neg x, if_neg w] at hK; exact hK
theorem list_m0 {mth mrq : Int32} {K : Int32 → Int32 → Int32 → Prop} (h : ¬ ((1 : Int32) ≤ p1 ∧ p1 ≤ 4)) (hK : K (-1) mth mrq) : g_X7_list mkd mrt mri mca mpr men mth mrq mtr mos p1 K := by
  unfold g_X7_list
  exact in_m (fun z => absurd z h) (fun _ => no0' hK)
theorem list_m1 {mth mrq : Int32} {d : Nat} (d1 : 1 ≤ d) (d2 : d ≤ 4) {K : Int32 → Int32 → Int32 → Prop} (hK : K mth (nI d) (nI 0)) : g_X7_list mkd mrt mri mca mpr men mth mrq mtr mos (nI d) K := by
  unfold g_X7_list
  exact in_m1 (nI_btw (a := 1) (b := 4) d1 d2 (by omega)) (yes1' hK)
theorem request_m {K : Int32 → Int32 → (Nat → Int32) → Prop} (h1 : 1 ≤ t) (h4 : t ≤ 4) (hq : q ≤ 16) (hb : ¬ ((0 : Int32) ≤ p1 ∧ p1 ≤ nI (t - 1)) → K (-1) (nI q) mqF) (hf : (0 : Int32) ≤ p1 ∧ p1 ≤ nI (t - 1) → ¬ q < 16 → K (-3) (nI q) mqF) (hk : (0 : Int32) ≤ p1 ∧ p1 ≤ nI (t - 1) → q < 16 → K (nI (q + 1)) (nI (q + 1)) (upd mqF q p1)) : g_X7_request mkd mrt mri mca mpr men (nI t) (nI q) mtr mos mqF p1 K := by
  unfold g_X7_request
  rw [show nI t - 1 = nI (t - 1) from pk_sub (b := 1) h1]
  refine in_m (fun h => yes1' ⟨fun z => ?_, fun z => ?_⟩) (fun h => no0' (hb h))
  · have z : ¬ q = 16 := fun y => z (by rw [y]; rfl)
    rw [nI_clamp (by omega), nI_1]
    exact ⟨vp_in_nI (by omega) (by omega), hk h (by omega)⟩
  · have z := (nI_eq (b := 16) (by omega) (by omega)).mp z
    exact hf h (by omega)
theorem drop_m {mth : Int32} {K : Int32 → Int32 → Prop} (hq : q ≤ 16) (h0 : q = 0 → K (-2) (nI q)) (h1 : ¬ q = 0 → K (nI (q - 1)) (nI (q - 1))) : g_X7_drop mkd mrt mri mca mpr men mth (nI q) mtr mos K := by
  unfold g_X7_drop
  refine ⟨fun z => ?_, fun z => h0 ((nI_eq (b := 0) (by omega) (by omega)).mp z)⟩
  have z : ¬ q = 0 := fun y => z (by rw [y]; rfl)
  rw [show nI q - 1 = nI (q - 1) from pk_sub (b := 1) (by omega)]
  exact h1 z
end M96
