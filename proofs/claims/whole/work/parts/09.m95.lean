/-! ===== the reference's best cost ===== -/
def iF (c : Nat) : Nat → Bool
  | 0 => true
  | i + 1 => iF c i && decide (tA c i = i)
set_option maxRecDepth 100000 in
theorem f_if {t : Nat} (h1 : 1 ≤ t) (h4 : t ≤ 4) : ∀ c ∈ oT t, iF c t = decide (c = fo t) := f_all (P := fun t => ∀ c ∈ oT t, iF c t = decide (c = fo t)) h1 h4 (by decide +kernel) (by decide +kernel) (by decide +kernel) (by decide +kernel)
theorem ix24 (o j : Nat) : ((24 : Int32) * nI o) + nI j = nI (24 * o + j) := by
  rw [show (24 : Int32) = nI 24 from rfl, pk_mul, nI_add]
section M95
variable {mkd mrt mri mca mpr men : Int32} {mtr : Int64} {t q : Nat} {a : Nat → Nat} {mqF moF mlF mtF mfF : Nat → Int32}
theorem bestCost_m (h1 : 1 ≤ t) (h4 : t ≤ 4) (hm : OM t moF) (hq : q ≤ 16) (ha : AK t q a mqF) {K : Int32 → (Nat → Int32) → (Nat → Int32) → (Nat → Int32) → Prop} (hK : ∀ F G H, K (nI (mnF (fun i => Lv t a q (oC t i)) 1000000 (oN t))) F G H) : g_X7_bestCost mkd mrt mri mca mpr men (nI t) (nI q) mtr (nI (oN t)) mqF moF mlF mtF mfF K := by
  have hn := f_nn h1 h4
  unfold g_X7_bestCost
  refine ⟨fun n i F G => ∃ u, u ≤ oN t ∧ n = oN t - u + 1 ∧ i = nI u ∧ (∀ j, j < u → F j = nI (Lv t a 0 (oC t j))) ∧ (∀ j, j < u → ∀ p, p < oN t → G (24 * j + p) = nI (dst t (oC t j) (oC t p))), ⟨oN t + 1, 0, by omega, by omega, rfl, fun j h => by omega, fun j h => by omega⟩, ?_, ?_⟩
  · rintro i F G ⟨u, h, h', -⟩
    omega
  · rintro n i F G ⟨u, hu, hn2, rfl, hF, hG⟩
    refine ⟨fun z => ?_, fun z => ?_⟩
    · have z := (nI_leI (by omega) (by omega)).mp z
      have : u = oN t := by omega
      subst this
      refine ⟨fun n i F H => ∃ k, k ≤ q ∧ n = q - k + 1 ∧ i = nI k ∧ ∀ j, j < oN t → F j = nI (Lv t a k (oC t j)), ⟨q + 1, 0, by omega, by omega, rfl, hF⟩, ?_, ?_⟩
      · rintro i F H ⟨k, h, h', -⟩
        omega
      · rintro n3 i F3 H3 ⟨k, hk, hn3, rfl, hF3⟩
        have hB := Lv_b h1 h4 (a := a) k (by omega) (fun j hj => (ha j (by omega)).2)
        have hBo : ∀ j, j < oN t → Lv t a k (oC t j) ≤ 1000000 := fun j hj => hB.1 _ (hn.2.2.1 j hj)
        refine ⟨fun y => ?_, fun y => ?_⟩
        · have y := (nI_leI (by omega) (by omega)).mp y
          have : k = q := by omega
          subst this
          refine ⟨vp_in_nI (n := 0) (by omega) (by omega), fun n s i => ∃ w, 1 ≤ w ∧ w ≤ oN t ∧ n = oN t - w + 1 ∧ s = nI (mnF (fun i => Lv t a k (oC t i)) 1000000 w) ∧ i = nI w, ⟨oN t, 1, by omega, by omega, by omega, ?_, rfl⟩, ?_, ?_⟩
          · show F3 0 = nI (if Lv t a k (oC t 0) < 1000000 then Lv t a k (oC t 0) else 1000000)
            rw [hF3 0 (by omega)]
            have := hBo 0 (by omega)
            split
            · rfl
            · congr 1; omega
          · rintro s i ⟨w, h, h', h'', -⟩
            omega
          · rintro n4 s i ⟨w, hw1, hw, hn4, rfl, rfl⟩
            refine ⟨fun x => ?_, fun x => ?_⟩
            · have x := (nI_leI (by omega) (by omega)).mp x
              have : w = oN t := by omega
              subst this
              exact hK _ _ _
            · have x : ¬ oN t ≤ w := fun v => x ((nI_leI (by omega) (by omega)).mpr v)
              have hl := hBo w (by omega)
              have hmm := (mnF_le (f := fun i => Lv t a k (oC t i)) (b := 1000000) w).1
              have hs : mnF (fun i => Lv t a k (oC t i)) 1000000 (w + 1) = if Lv t a k (oC t w) < mnF (fun i => Lv t a k (oC t i)) 1000000 w then Lv t a k (oC t w) else mnF (fun i => Lv t a k (oC t i)) 1000000 w := rfl
              rw [nI_clamp (by omega), hF3 w (by omega)]
              refine ⟨vp_in_nI (by omega) (by omega), fun v => v = nI (mnF (fun i => Lv t a k (oC t i)) 1000000 (w + 1)), ?_, fun g => ?_, fun g => ⟨vp_in_nI (by omega) (by omega), ?_⟩⟩
              · rintro v rfl
                exact ⟨w + 1, by omega, by omega, by omega, rfl, nI_1 _⟩
              · have g := (nI_leI (by omega) (by omega)).mp g
                show nI (mnF _ _ w) = _
                rw [hs, if_neg (by omega)]
              · have g : ¬ mnF (fun i => Lv t a k (oC t i)) 1000000 w ≤ Lv t a k (oC t w) := fun v => g ((nI_leI (by omega) (by omega)).mpr v)
                show nI (Lv t a k (oC t w)) = _
                rw [hs, if_pos (by omega)]
        · have y : ¬ q ≤ k := fun v => y ((nI_leI (by omega) (by omega)).mpr v)
          have hx := (ha k (by omega)).2
          have hax := (ha k (by omega)).1
          have hPo : ∀ j, j < oN t → Lp t (Lv t a k) (a k) (oC t j) ≤ 170 := fun j hj => Nat.le_trans (Lp_b h1 h4 hB hx (hn.2.2.1 j hj)) (by omega)
          refine ⟨fun n i H => ∃ u, u ≤ oN t ∧ n = oN t - u + 1 ∧ i = nI u ∧ ∀ j, j < u → H j = nI (Lp t (Lv t a k) (a k) (oC t j)), ⟨oN t + 1, 0, by omega, by omega, rfl, fun j h => by omega⟩, ?_, ?_⟩
          · rintro i H ⟨u, h, h', -⟩
            omega
          · rintro n4 i H4 ⟨u, hu4, hn4, rfl, hH4⟩
            refine ⟨fun w => ?_, fun w => ?_⟩
            · have w := (nI_leI (by omega) (by omega)).mp w
              have : u = oN t := by omega
              subst this
              refine ⟨fun n i F => ∃ u, u ≤ oN t ∧ n = oN t - u + 1 ∧ i = nI u ∧ ∀ j, j < u → F j = nI (Lm t (Lv t a k) (a k) (oC t j)), ⟨oN t + 1, 0, by omega, by omega, rfl, fun j h => by omega⟩, ?_, ?_⟩
              · rintro i F ⟨u, h, h', -⟩
                omega
              · rintro n5 i F5 ⟨u, hu5, hn5, rfl, hF5⟩
                refine ⟨fun w5 => ?_, fun w5 => ?_⟩
                · have w5 := (nI_leI (by omega) (by omega)).mp w5
                  have : u = oN t := by omega
                  subst this
                  exact ⟨k + 1, by omega, by omega, nI_1 _, hF5⟩
                · have w5 : ¬ oN t ≤ u := fun v => w5 ((nI_leI (by omega) (by omega)).mpr v)
                  rw [nI_clamp (show u < 2 ^ 31 by omega)]
                  refine ⟨vp_in_nI (by omega) (by omega), fun n i F => ∃ o, o ≤ oN t ∧ n = oN t - o + 1 ∧ i = nI o ∧ F u = nI (mnC (fun o => Lp t (Lv t a k) (a k) (oC t o)) (fun o => cO t (oC t o) (oC t u) (a k)) 1000000 o) ∧ ∀ j, j < u → F j = nI (Lm t (Lv t a k) (a k) (oC t j)), ⟨oN t + 1, 0, by omega, by omega, rfl, pk_us, fun j hj => by rw [pk_un (by omega)]; exact hF5 j hj⟩, ?_, ?_⟩
                  · rintro i F ⟨o, h, h', -⟩
                    omega
                  · rintro n6 i F6 ⟨o, ho6, hn6, rfl, hu6, hF6⟩
                    refine ⟨fun w6 => ?_, fun w6 => ?_⟩
                    · have w6 := (nI_leI (by omega) (by omega)).mp w6
                      have : o = oN t := by omega
                      subst this
                      refine ⟨u + 1, by omega, by omega, nI_1 _, fun j hj => ?_⟩
                      by_cases g : j = u
                      · rw [g]; exact hu6
                      · exact hF6 j (by omega)
                    · have w6 : ¬ oN t ≤ o := fun v => w6 ((nI_leI (by omega) (by omega)).mpr v)
                      have hl := hPo o (by omega)
                      have hmm := (mnC_le (f := fun o => Lp t (Lv t a k) (a k) (oC t o)) (b := fun o => cO t (oC t o) (oC t u) (a k)) (m := 1000000) o).1
                      have hs : mnC (fun o => Lp t (Lv t a k) (a k) (oC t o)) (fun o => cO t (oC t o) (oC t u) (a k)) 1000000 (o + 1) = if Lp t (Lv t a k) (a k) (oC t o) < mnC (fun o => Lp t (Lv t a k) (a k) (oC t o)) (fun o => cO t (oC t o) (oC t u) (a k)) 1000000 o ∧ cO t (oC t o) (oC t u) (a k) = true then Lp t (Lv t a k) (a k) (oC t o) else mnC (fun o => Lp t (Lv t a k) (a k) (oC t o)) (fun o => cO t (oC t o) (oC t u) (a k)) 1000000 o := rfl
                      rw [nI_clamp (show o < 2 ^ 31 by omega), nI_clamp (show k < 2 ^ 31 by omega), hu6, hH4 o (by omega), hax]
                      refine ⟨vp_in_nI (by omega) (by omega), vp_in_nI (by omega) (by omega), fun v => v = nI (mnC (fun o => Lp t (Lv t a k) (a k) (oC t o)) (fun o => cO t (oC t o) (oC t u) (a k)) 1000000 (o + 1)), ?_, mnC (fun o => Lp t (Lv t a k) (a k) (oC t o)) (fun o => cO t (oC t o) (oC t u) (a k)) 1000000 (o + 1) = mnC (fun o => Lp t (Lv t a k) (a k) (oC t o)) (fun o => cO t (oC t o) (oC t u) (a k)) 1000000 o, fun e => ⟨vp_in_nI (by omega) (by omega), by show nI _ = nI _; rw [e]⟩, fun g => ?_, fun g => ⟨vp_in_nI (by omega) (by omega), ?_⟩⟩
                      · rintro v rfl
                        exact ⟨vp_in_nI (by omega) (by omega), o + 1, by omega, by omega, nI_1 _, pk_us, fun j hj => by rw [pk_un (by omega)]; exact hF6 j hj⟩
                      · have g := (nI_leI (by omega) (by omega)).mp g
                        rw [hs, if_neg (fun e => by omega)]
                      · have g : ¬ mnC (fun o => Lp t (Lv t a k) (a k) (oC t o)) (fun o => cO t (oC t o) (oC t u) (a k)) 1000000 o ≤ Lp t (Lv t a k) (a k) (oC t o) := fun v => g ((nI_leI (by omega) (by omega)).mpr v)
                        refine comesOf_m h1 h4 hm (by omega) (by omega) hx ⟨fun e => ?_, fun e => ⟨vp_in_nI (by omega) (by omega), ?_⟩⟩
                        · have e := bI_0.mp e
                          rw [hs, if_neg (fun v => absurd v.2 (by rw [e]; decide))]
                        · have e : cO t (oC t o) (oC t u) (a k) = true := by
                            cases hb : cO t (oC t o) (oC t u) (a k) with
                            | true => rfl
                            | false => exact absurd (by rw [hb]; rfl) e
                          show nI _ = nI _
                          rw [hs, if_pos ⟨by omega, e⟩]
            · have w : ¬ oN t ≤ u := fun v => w ((nI_leI (by omega) (by omega)).mpr v)
              have hcu := hn.2.2.1 u (by omega)
              have hpu := (f_pl h1 h4 _ hcu (a k) hx).1
              rw [nI_clamp (show u < 2 ^ 31 by omega)]
              refine ⟨vp_in_nI (by omega) (by omega), fun n i H => ∃ o, o ≤ oN t ∧ n = oN t - o + 1 ∧ i = nI o ∧ H u = nI (mnF (fun o => Lv t a k (oC t o) + dst t (oC t o) (oC t u)) 1000000 o) ∧ ∀ j, j < u → H j = nI (Lp t (Lv t a k) (a k) (oC t j)), ⟨oN t + 1, 0, by omega, by omega, rfl, pk_us, fun j hj => by rw [pk_un (by omega)]; exact hH4 j hj⟩, ?_, ?_⟩
              · rintro i H ⟨o, h, h', -⟩
                omega
              · rintro n6 i H6 ⟨o, ho6, hn6, rfl, hu6, hH6⟩
                refine ⟨fun w6 => ?_, fun w6 => ?_⟩
                · have w6 := (nI_leI (by omega) (by omega)).mp w6
                  have : o = oN t := by omega
                  subst this
                  rw [nI_clamp (show k < 2 ^ 31 by omega), hax]
                  refine ⟨vp_in_nI (by omega) (by omega), vp_in_nI (by omega) (by omega), placeIn_m h1 h4 hm (by omega) hx ⟨vp_in_nI (by omega) (by omega), u + 1, by omega, by omega, nI_1 _, fun j hj => ?_⟩⟩
                  by_cases g : j = u
                  · rw [g, pk_us, hu6, nI_1, nI_add]; rfl
                  · rw [pk_un g]; exact hH6 j (by omega)
                · have w6 : ¬ oN t ≤ o := fun v => w6 ((nI_leI (by omega) (by omega)).mpr v)
                  have hl := hBo o (by omega)
                  have hd := d6 h1 h4 (hn.2.2.1 o (by omega)) hcu
                  have hmm := (mnF_le (f := fun o => Lv t a k (oC t o) + dst t (oC t o) (oC t u)) (b := 1000000) o).1
                  have hs : mnF (fun o => Lv t a k (oC t o) + dst t (oC t o) (oC t u)) 1000000 (o + 1) = if Lv t a k (oC t o) + dst t (oC t o) (oC t u) < mnF (fun o => Lv t a k (oC t o) + dst t (oC t o) (oC t u)) 1000000 o then Lv t a k (oC t o) + dst t (oC t o) (oC t u) else mnF (fun o => Lv t a k (oC t o) + dst t (oC t o) (oC t u)) 1000000 o := rfl
                  rw [ix24, nI_clamp (show o < 2 ^ 31 by omega), nI_clamp (show 24 * o + u < 2 ^ 31 by omega), hu6, hF3 o (by omega), hG o (by omega) u (by omega), nI_add]
                  refine ⟨vp_in_nI (by omega) (by omega), vp_in_nI (by omega) (by omega), vp_in_nI (by omega) (by omega), fun v => v = nI (mnF (fun o => Lv t a k (oC t o) + dst t (oC t o) (oC t u)) 1000000 (o + 1)), ?_, fun g => ⟨vp_in_nI (by omega) (by omega), ?_⟩, fun g => ?_⟩
                  · rintro v rfl
                    exact ⟨vp_in_nI (by omega) (by omega), o + 1, by omega, by omega, nI_1 _, pk_us, fun j hj => by rw [pk_un (by omega)]; exact hH6 j hj⟩
                  · have g := (nI_leI (by omega) (by omega)).mp g
                    show nI _ = nI _
                    rw [hs, if_neg (by omega)]
                  · have g : ¬ mnF (fun o => Lv t a k (oC t o) + dst t (oC t o) (oC t u)) 1000000 o ≤ Lv t a k (oC t o) + dst t (oC t o) (oC t u) := fun v => g ((nI_leI (by omega) (by omega)).mpr v)
                    show nI _ = nI _
                    rw [hs, if_pos (by omega)]
    · have z : ¬ oN t ≤ u := fun y => z ((nI_leI (by omega) (by omega)).mpr y)
      have hcu := hn.2.2.1 u (by omega)
      refine ⟨fun n v i => ∃ j, j ≤ t ∧ n = t - j + 1 ∧ v = bI (iF (oC t u) j) ∧ i = nI j, ⟨t + 1, 0, by omega, by omega, rfl, rfl⟩, ?_, ?_⟩
      · rintro v i ⟨j, h, h', -⟩
        omega
      · rintro n3 v i ⟨j, hj, hn3, rfl, rfl⟩
        refine ⟨fun y => ?_, fun y => ?_⟩
        · have y := (nI_leI (by omega) (by omega)).mp y
          have : j = t := by omega
          subst this
          have hif := f_if h1 h4 _ hcu
          refine ⟨fun v => v = nI (Lv j a 0 (oC j u)), ?_, fun w => ?_, fun w => ?_⟩
          · rintro v rfl
            refine ⟨vp_in_nI (by omega) (by omega), fun n i G => ∃ p, p ≤ oN j ∧ n = oN j - p + 1 ∧ i = nI p ∧ (∀ e, e < u → ∀ p, p < oN j → G (24 * e + p) = nI (dst j (oC j e) (oC j p))) ∧ ∀ e, e < p → G (24 * u + e) = nI (dst j (oC j u) (oC j e)), ⟨oN j + 1, 0, by omega, by omega, rfl, hG, fun e h => by omega⟩, ?_, ?_⟩
            · rintro i G ⟨p, h, h', -⟩
              omega
            · rintro n4 i G4 ⟨p, hp4, hn4, rfl, g1, g2⟩
              refine ⟨fun w => ?_, fun w => ?_⟩
              · have w := (nI_leI (by omega) (by omega)).mp w
                have : p = oN j := by omega
                subst this
                rw [nI_clamp (by omega)]
                refine ⟨u + 1, by omega, by omega, nI_1 _, fun e he => ?_, fun e he p hp => ?_⟩
                · by_cases g : e = u
                  · rw [g, pk_us]
                  · rw [pk_un g]; exact hF e (by omega)
                · by_cases g : e = u
                  · rw [g]; exact g2 p hp
                  · exact g1 e (by omega) p hp
              · have w : ¬ oN j ≤ p := fun v => w ((nI_leI (by omega) (by omega)).mpr v)
                rw [ix24, nI_clamp (by omega)]
                refine apart_m h1 h4 hm (by omega) (by omega) ⟨vp_in_nI (by omega) (by omega), p + 1, by omega, by omega, nI_1 _, fun e he p' hp' => ?_, fun e he => ?_⟩
                · rw [pk_un (by omega)]; exact g1 e he p' hp'
                · by_cases g : e = p
                  · rw [g, pk_us]
                  · rw [pk_un (by omega)]; exact g2 e (by omega)
          · have w := bI_0.mp w
            rw [hif] at w
            show (1000000 : Int32) = nI (if oC j u = fo j then 0 else 1000000)
            rw [if_neg (of_decide_eq_false w)]
            rfl
          · have w : oC j u = fo j := by
              by_cases g : oC j u = fo j
              · exact g
              · exact absurd (by rw [hif, decide_eq_false g]; rfl) w
            show (0 : Int32) = nI (if oC j u = fo j then 0 else 1000000)
            rw [if_pos w]
            rfl
        · have y : ¬ t ≤ j := fun x => y ((nI_leI (by omega) (by omega)).mpr x)
          have hdg := f_dg h1 h4 _ hcu j (by omega)
          have hs : iF (oC t u) (j + 1) = (iF (oC t u) j && decide (tA (oC t u) j = j)) := rfl
          refine ⟨fun v => v = bI (iF (oC t u) (j + 1)), ?_, iF (oC t u) (j + 1) = false, fun w => ?_, fun w => ?_, fun w => ?_⟩
          · rintro v rfl
            exact ⟨j + 1, by omega, by omega, rfl, nI_1 _⟩
          · show (0 : Int32) = bI _
            rw [w]; rfl
          · rw [hs, bI_0.mp w]; rfl
          · have w : iF (oC t u) j = true := by
              cases hb : iF (oC t u) j with
              | true => rfl
              | false => exact absurd (by rw [hb]; rfl) w
            rw [ix4, nI_clamp (by omega), hm u (by omega) j (by omega)]
            refine ⟨vp_in_nI (by omega) (by omega), fun g => ?_, fun g => ?_⟩
            · rw [hs, decide_eq_false (fun e => g (by rw [e])), Bool.and_false]
            · have g := (nI_eq (by omega) (by omega)).mp g
              show (1 : Int32) = bI _
              rw [hs, w, decide_eq_true g]; rfl
end M95
