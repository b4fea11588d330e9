/-! ===== the class's best cost ===== -/
theorem seen_0 {t c : Nat} : ¬ seen t c 0 = true := Bool.false_ne_true
section C94
variable {req ocn : Int32} {t : Nat} {osF : Nat → Int32}
theorem payPlaces_c (h1 : 1 ≤ t) (h4 : t ≤ 4) (hr : OR t ocn osF) {x : Nat} (hx : x < t) {L : Nat → Nat} {F : Nat → Int32} (hF : RL' t L F) {K : (Nat → Int32) → Prop} (hK : ∀ F', RL' t (fun c => L c + (pl t c x + 1)) F' → K F') : g_X5_payPlaces (nI t) req ocn osF F (nI x) K := by
  have hn := f_nn h1 h4
  obtain ⟨rfl, hO⟩ := hr
  unfold g_X5_payPlaces
  refine ⟨fun n i F => ∃ k, k ≤ oN t ∧ n = oN t - k + 1 ∧ i = nI k ∧ ∀ c, c ∈ oT t → F c = nI (if seen t c k = true then L c + (pl t c x + 1) else L c), ⟨oN t + 1, 0, by omega, by omega, rfl, fun c hc => ?_⟩, ?_, ?_⟩
  · rw [if_neg seen_0]
    exact hF c hc
  · rintro i F ⟨k, h, h', -⟩
    omega
  · rintro n i F2 ⟨k, hk, hn2, rfl, hF2⟩
    refine ⟨fun z => ?_, fun z => ?_⟩
    · have z := (nI_leI (by omega) (by omega)).mp z
      have : k = oN t := by omega
      subst this
      refine hK F2 (fun c hc => ?_)
      rw [hF2 c hc, if_pos (seen_all h1 h4 hc)]
    · have z : ¬ oN t ≤ k := fun y => z ((nI_leI (by omega) (by omega)).mpr y)
      have hc := hn.2.2.1 k (by omega)
      have hc2 := f_lt h1 h4 _ hc
      have hs := f_sn h1 h4 k (by omega)
      rw [nI_clamp (by omega), hO k (by omega)]
      refine ⟨vp_in_nI (by omega) (by omega), vp_in_nI hc2 (by omega), vp_in_nI (by omega) (by omega), placeOf_c h1 h4 hc2 (by omega) ⟨vp_in_nI hc2 (by omega), k + 1, by omega, by omega, nI_1 _, fun c hcc => ?_⟩⟩
      rw [nI_clamp (by omega), hF2 _ hc, if_neg (by rw [hs]; decide), nI_1, nI_add]
      by_cases g : c = oC t k
      · rw [g, pk_us, if_pos (seen_of (k + 1) k (by omega) rfl)]
      · rw [pk_un g, hF2 c hcc]
        have e : seen t c (k + 1) = seen t c k := by
          show (seen t c k || decide (oC t k = c)) = _
          rw [decide_eq_false (fun e => g e.symm), Bool.or_false]
        rw [e]
/-- behind the moves ahead -/
def MV (t x : Nat) (L L' : Nat → Nat) (p : Nat) : Prop := (∃ o, o ∈ oT t ∧ cO t o p x = true ∧ L' p = L o) ∧ ∀ o, o ∈ oT t → cO t o p x = true → L' p ≤ L o
theorem moveAhead_c (h1 : 1 ≤ t) (h4 : t ≤ 4) (hr : OR t ocn osF) {x : Nat} (hx : x < t) {L : Nat → Nat} {F : Nat → Int32} (hF : RL' t L F) (hb : ∀ c, c ∈ oT t → L c ≤ 1000000) {K : (Nat → Int32) → Prop} (hK : ∀ L' F', RL' t L' F' → (∀ p, p ∈ oT t → MV t x L L' p) → K F') : g_X5_moveAhead (nI t) req ocn osF F (nI x) K := by
  have hn := f_nn h1 h4
  obtain ⟨rfl, hO⟩ := hr
  unfold g_X5_moveAhead
  rw [show nI t - 1 = nI (t - 1) from pk_sub (b := 1) h1]
  refine ⟨fun n v F => ∃ k M, k ≤ t - 1 ∧ n = k + 1 ∧ v = nI k ∧ RL' t M F ∧ (∀ p, p ∈ oT t → k ≤ pl t p x → MV t x L M p) ∧ (∀ p, p ∈ oT t → pl t p x < k → M p = L p), ⟨t, t - 1, L, Nat.le_refl _, by omega, rfl, hF, fun p hp hk => ⟨⟨p, hp, cO_self h1 h4 hp hx, rfl⟩, fun o ho hc => ?_⟩, fun p hp _ => rfl⟩, ?_, ?_⟩
  · rw [f_c1 h1 h4 o ho p hp x hx, decide_eq_false (show ¬ pl t p x + 1 < t by omega), Bool.false_and, Bool.or_false] at hc
    rw [of_decide_eq_true hc]
    exact Nat.le_refl _
  · rintro v F ⟨k, M, h, h', -⟩
    omega
  · rintro n v F2 ⟨k, M, hk, hn2, rfl, hR, m1, m2⟩
    have hMb : ∀ p, p ∈ oT t → M p ≤ 1000000 := by
      intro p hp
      by_cases g : k ≤ pl t p x
      · obtain ⟨o, ho, -, e⟩ := (m1 p hp g).1
        rw [e]; exact hb o ho
      · rw [m2 p hp (by omega)]; exact hb p hp
    refine ⟨fun z => ?_, fun z => ?_⟩
    · have z := (nI_leI (b := 0) (by omega) (by omega)).mp z
      exact hK M F2 hR (fun p hp => m1 p hp (by omega))
    · have z : ¬ k ≤ 0 := fun y => z ((nI_leI (b := 0) (by omega) (by omega)).mpr y)
      obtain ⟨r, rfl⟩ : ∃ r, k = r + 1 := ⟨k - 1, by omega⟩
      rw [show nI (r + 1) - 1 = nI r from nI_pred r, pk_m1]
      refine ⟨fun n i F => ∃ k M', k ≤ oN t ∧ n = oN t - k + 1 ∧ i = nI k ∧ RL' t M' F ∧ (∀ p, p ∈ oT t → ¬ pl t p x = r → M' p = M p) ∧ (∀ p, p ∈ oT t → pl t p x = r → M' p ≤ M p ∧ (M' p = M p ∨ M' p = M (exc p r)) ∧ (seen t (exc p r) k = true → M' p ≤ M (exc p r))), ⟨oN t + 1, 0, M, by omega, by omega, rfl, hR, fun _ _ _ => rfl, fun p hp hq => ⟨Nat.le_refl _, Or.inl rfl, fun g => absurd g seen_0⟩⟩, ?_, ?_⟩
      · rintro i F ⟨k, M', h, h', -⟩
        omega
      · rintro n3 i F3 ⟨k, M', hk3, hn3, rfl, hR3, q1, q2⟩
        refine ⟨fun w => ?_, fun w => ?_⟩
        · have w := (nI_leI (by omega) (by omega)).mp w
          have : k = oN t := by omega
          subst this
          refine ⟨r, M', by omega, by omega, rfl, hR3, fun p hp hrp => ?_, fun p hp hrp => ?_⟩
          · by_cases g : pl t p x = r
            · have g2 : pl t p x + 1 < t := by omega
              have e2 := f_c2 h1 h4 p hp x hx g2
              have e1 := f_ex h1 h4 p hp (pl t p x) (by omega)
              rw [g] at e2 e1
              obtain ⟨a1, a2, a3⟩ := q2 p hp g
              have a4 := a3 (seen_all h1 h4 e1.1)
              have hmv := m1 (exc p r) e1.1 (by omega)
              have hco : ∀ o, o ∈ oT t → cO t o p x = (decide (o = p) || cO t o (exc p r) x) := by
                intro o ho
                rw [f_c1 h1 h4 o ho p hp x hx, decide_eq_true g2, Bool.true_and, g]
              refine ⟨?_, fun o ho hc => ?_⟩
              · rcases a2 with a2 | a2
                · exact ⟨p, hp, cO_self h1 h4 hp hx, by rw [a2, m2 p hp (by omega)]⟩
                · obtain ⟨o, ho, hc, e⟩ := hmv.1
                  exact ⟨o, ho, by rw [hco o ho, hc, Bool.or_true], by rw [a2, e]⟩
              · rw [hco o ho] at hc
                by_cases d : o = p
                · rw [d, ← m2 p hp (by omega)]; exact a1
                · rw [decide_eq_false d, Bool.false_or] at hc
                  exact Nat.le_trans a4 (hmv.2 o ho hc)
            · have e := q1 p hp g
              have hmv := m1 p hp (by omega)
              unfold MV at hmv ⊢
              rw [e]
              exact hmv
          · rw [q1 p hp (by omega)]
            exact m2 p hp (by omega)
        · have w : ¬ oN t ≤ k := fun y => w ((nI_leI (by omega) (by omega)).mpr y)
          have hc := hn.2.2.1 k (by omega)
          have hc2 := f_lt h1 h4 _ hc
          have htb := tA_b (oC t k) (r + 1)
          rw [nI_clamp (by omega), hO k (by omega)]
          refine ⟨vp_in_nI (by omega) (by omega), thingAt_c hc2 (by omega) ?_⟩
          refine ⟨fun F => ∃ M', RL' t M' F ∧ (∀ p, p ∈ oT t → ¬ pl t p x = r → M' p = M p) ∧ (∀ p, p ∈ oT t → pl t p x = r → M' p ≤ M p ∧ (M' p = M p ∨ M' p = M (exc p r)) ∧ (seen t (exc p r) (k + 1) = true → M' p ≤ M (exc p r))), ?_, fun g => ?_, fun g => ?_⟩
          · rintro F ⟨M', h2, h3, h5⟩
            exact ⟨k + 1, M', by omega, by omega, nI_1 _, h2, h3, h5⟩
          · have g : ¬ tA (oC t k) (r + 1) = x := fun e => g (by rw [e])
            have g2 : ¬ pl t (oC t k) x = r + 1 := fun e => g ((f_at h1 h4 _ hc x hx (r + 1) (by omega)).mpr e)
            refine ⟨M', hR3, q1, fun p hp hrp => ⟨(q2 p hp hrp).1, (q2 p hp hrp).2.1, fun hs => (q2 p hp hrp).2.2 ?_⟩⟩
            have e : ¬ oC t k = exc p r := by
              intro e
              have e2 := f_c2 h1 h4 p hp x hx (by omega)
              rw [hrp, ← e] at e2
              exact g2 e2
            have hs' : (seen t (exc p r) k || decide (oC t k = exc p r)) = true := hs
            rw [decide_eq_false e, Bool.or_false] at hs'
            exact hs'
          · have g := (nI_eq (by omega) (by omega)).mp g
            have g2 := (f_at h1 h4 _ hc x hx (r + 1) (by omega)).mp g
            obtain ⟨e1, e2, e3⟩ := f_c3 h1 h4 _ hc x hx (by omega)
            rw [g2] at e1 e2 e3
            have e1 : pl t (exc (oC t k) r) x = r := e1
            have e2 : exc (exc (oC t k) r) r = oC t k := e2
            have e3 : exc (oC t k) r ∈ oT t := e3
            have hy := f_lt h1 h4 _ e3
            have hMc : M' (oC t k) = M (oC t k) := q1 _ hc (by omega)
            have b1 := hMb _ hc
            have b2 := hMb _ e3
            obtain ⟨a1, a2, a3⟩ := q2 _ e3 e1
            refine ⟨vp_in_nI (by omega) (by omega), exchanged_c hc2 (by omega) ⟨vp_in_nI hy (by omega), vp_in_nI (by omega) (by omega), vp_in_nI hc2 (by omega), vp_in_nI hy (by omega), ?_⟩⟩
            rw [nI_clamp (by omega), nI_clamp (by omega), hR3 _ hc, hR3 _ e3, hMc]
            refine ⟨fun p => if p = exc (oC t k) r then (if M (oC t k) < M' (exc (oC t k) r) then M (oC t k) else M' (exc (oC t k) r)) else M' p, fun c hcc => ?_, fun p hp hrp => ?_, fun p hp hrp => ?_⟩
            · show upd F3 (exc (oC t k) r) _ c = nI (if c = exc (oC t k) r then (if M (oC t k) < M' (exc (oC t k) r) then M (oC t k) else M' (exc (oC t k) r)) else M' c)
              by_cases d : c = exc (oC t k) r
              · rw [d, pk_us, if_pos rfl]
                by_cases b : M (oC t k) < M' (exc (oC t k) r)
                · rw [if_pos b, if_pos ((nI_ltI (by omega) (by omega)).mpr b)]
                · rw [if_neg b, if_neg (fun u => b ((nI_ltI (by omega) (by omega)).mp u))]
              · rw [pk_un d, if_neg d]; exact hR3 c hcc
            · show (if p = exc (oC t k) r then _ else M' p) = M p
              rw [if_neg (fun d => hrp (by rw [d]; exact e1))]
              exact q1 p hp hrp
            · by_cases d : p = exc (oC t k) r
              · subst d
                rw [e2]
                show (if exc (oC t k) r = exc (oC t k) r then (if M (oC t k) < M' (exc (oC t k) r) then M (oC t k) else M' (exc (oC t k) r)) else M' (exc (oC t k) r)) ≤ M (exc (oC t k) r) ∧ ((if exc (oC t k) r = exc (oC t k) r then (if M (oC t k) < M' (exc (oC t k) r) then M (oC t k) else M' (exc (oC t k) r)) else M' (exc (oC t k) r)) = M (exc (oC t k) r) ∨ (if exc (oC t k) r = exc (oC t k) r then (if M (oC t k) < M' (exc (oC t k) r) then M (oC t k) else M' (exc (oC t k) r)) else M' (exc (oC t k) r)) = M (oC t k)) ∧ (_ → (if exc (oC t k) r = exc (oC t k) r then (if M (oC t k) < M' (exc (oC t k) r) then M (oC t k) else M' (exc (oC t k) r)) else M' (exc (oC t k) r)) ≤ M (oC t k))
                rw [if_pos rfl]
                rw [e2] at a2
                by_cases b : M (oC t k) < M' (exc (oC t k) r)
                · rw [if_pos b]
                  exact ⟨by omega, Or.inr rfl, fun _ => Nat.le_refl _⟩
                · rw [if_neg b]
                  exact ⟨a1, a2, fun _ => by omega⟩
              · show (if p = exc (oC t k) r then _ else M' p) ≤ M p ∧ ((if p = exc (oC t k) r then _ else M' p) = M p ∨ (if p = exc (oC t k) r then _ else M' p) = M (exc p r)) ∧ (_ → (if p = exc (oC t k) r then _ else M' p) ≤ M (exc p r))
                rw [if_neg d]
                obtain ⟨c1, c2, c3⟩ := q2 p hp hrp
                refine ⟨c1, c2, fun hs => c3 ?_⟩
                have e : ¬ oC t k = exc p r := by
                  intro e
                  have e4 := (f_ex h1 h4 p hp r (by omega)).2.2
                  rw [← e] at e4
                  exact d e4.symm
                have hs' : (seen t (exc p r) k || decide (oC t k = exc p r)) = true := hs
                rw [decide_eq_false e, Bool.or_false] at hs'
                exact hs'
theorem RL'.to {L L' : Nat → Nat} {F : Nat → Int32} (h : RL' t L F) (e : ∀ c, c ∈ oT t → L c = L' c) : RL' t L' F := fun c hc => by rw [h c hc, e c hc]
theorem Lx_of (h1 : 1 ≤ t) (h4 : t ≤ 4) {L M : Nat → Nat} (hb : ∀ c, c ∈ oT t → M c ≤ 1000000) (h : FIN t L M) {c : Nat} (hc : c ∈ oT t) : Lx t L c = M c := by
  have hn := f_nn h1 h4
  refine mnF_eq (hb c hc) (fun i hi => h.2 _ c (hn.2.2.1 i hi) hc) (Or.inr ?_)
  obtain ⟨c0, h0, hl⟩ := h.1 c hc
  obtain ⟨i, hi, rfl⟩ := hn.2.2.2 c0 h0
  exact ⟨i, hi, hl⟩
theorem Lm_of (h1 : 1 ≤ t) (h4 : t ≤ 4) {L M : Nat → Nat} {x : Nat} {p : Nat} (hb : M p ≤ 1000000) (h : MV t x (Lp t L x) M p) : Lm t L x p = M p := by
  have hn := f_nn h1 h4
  refine mnC_eq hb (fun i hi hc => h.2 _ (hn.2.2.1 i hi) hc) ?_
  obtain ⟨o, ho, hc, e⟩ := h.1
  obtain ⟨i, hi, rfl⟩ := hn.2.2.2 o ho
  exact ⟨i, hi, hc, by rw [e]; exact Nat.le_refl _⟩
theorem bestCost_c {q : Nat} {a : Nat → Nat} {akF leF : Nat → Int32} (h1 : 1 ≤ t) (h4 : t ≤ 4) (hq : q ≤ 16) (ha : AK t q a akF) (hr : OR t ocn osF) {K : Int32 → (Nat → Int32) → Prop} (hK : ∀ F, K (nI (mnF (fun i => Lv t a q (oC t i)) 1000000 (oN t))) F) : g_X5_bestCost (nI t) (nI q) ocn akF osF leF K := by
  have hn := f_nn h1 h4
  have hr2 := hr
  obtain ⟨rfl, hO⟩ := hr
  have hfo := (f_fo h1 h4).1
  have hfl := f_lt h1 h4 _ hfo
  unfold g_X5_bestCost
  refine ⟨fun n i F => ∃ k, k ≤ oN t ∧ n = oN t - k + 1 ∧ i = nI k ∧ ∀ c, c ∈ oT t → seen t c k = true → F c = nI 1000000, ⟨oN t + 1, 0, by omega, by omega, rfl, fun c hc g => absurd g seen_0⟩, ?_, ?_⟩
  · rintro i F ⟨k, h, h', -⟩
    omega
  · rintro n i F ⟨k, hk, hn2, rfl, hF⟩
    refine ⟨fun z => ?_, fun z => ?_⟩
    · have z := (nI_leI (by omega) (by omega)).mp z
      have : k = oN t := by omega
      subst this
      refine firstOrder_c h4 ⟨vp_in_nI hfl (by omega), ?_⟩
      rw [nI_clamp (by omega)]
      refine ⟨fun n i F => ∃ k, k ≤ q ∧ n = q - k + 1 ∧ i = nI k ∧ RL' t (Lv t a k) F, ⟨q + 1, 0, by omega, by omega, rfl, fun c hc => ?_⟩, ?_, ?_⟩
      · show upd F (fo t) 0 c = nI (if c = fo t then 0 else 1000000)
        by_cases g : c = fo t
        · rw [g, pk_us, if_pos rfl]; rfl
        · rw [pk_un g, if_neg g]; exact hF c hc (seen_all h1 h4 hc)
      · rintro i F ⟨k, h, h', -⟩
        omega
      · rintro n3 i F3 ⟨k, hk3, hn3, rfl, hR⟩
        have hB := Lv_b h1 h4 (a := a) k (by omega) (fun j hj => (ha j (by omega)).2)
        refine ⟨fun y => ?_, fun y => ?_⟩
        · have y := (nI_leI (by omega) (by omega)).mp y
          have : k = q := by omega
          subst this
          refine ⟨fun n s i => ∃ u, u ≤ oN t ∧ n = oN t - u + 1 ∧ s = nI (mnF (fun i => Lv t a k (oC t i)) 1000000 u) ∧ i = nI u, ⟨oN t + 1, 0, by omega, by omega, rfl, rfl⟩, ?_, ?_⟩
          · rintro s i ⟨u, h, h', -⟩
            omega
          · rintro n4 s i ⟨u, hu, hn4, rfl, rfl⟩
            refine ⟨fun w => ?_, fun w => ?_⟩
            · have w := (nI_leI (by omega) (by omega)).mp w
              have : u = oN t := by omega
              subst this
              exact hK F3
            · have w : ¬ oN t ≤ u := fun v => w ((nI_leI (by omega) (by omega)).mpr v)
              have hc := hn.2.2.1 u (by omega)
              have hc2 := f_lt h1 h4 _ hc
              have hl := hB.1 _ hc
              have hm := (mnF_le (f := fun i => Lv t a k (oC t i)) (b := 1000000) u).1
              rw [nI_clamp (by omega), hO u (by omega), nI_clamp (by omega), hR _ hc]
              refine ⟨vp_in_nI (by omega) (by omega), vp_in_nI hc2 (by omega), u + 1, by omega, by omega, ?_, nI_1 _⟩
              show _ = nI (if Lv t a k (oC t u) < mnF (fun i => Lv t a k (oC t i)) 1000000 u then Lv t a k (oC t u) else mnF (fun i => Lv t a k (oC t i)) 1000000 u)
              by_cases b : Lv t a k (oC t u) < mnF (fun i => Lv t a k (oC t i)) 1000000 u
              · rw [if_pos b, if_pos ((nI_ltI (by omega) (by omega)).mpr b)]
              · rw [if_neg b, if_neg (fun v => b ((nI_ltI (by omega) (by omega)).mp v))]
        · have y : ¬ q ≤ k := fun v => y ((nI_leI (by omega) (by omega)).mpr v)
          have hx := (ha k (by omega)).2
          refine exchangeNeighbours_c h1 h4 hr2 hR hB.1 (fun M F4 hR4 hM hfin => ⟨vp_in_nI (by omega) (by omega), ?_⟩)
          have hR5 : RL' t (Lx t (Lv t a k)) F4 := hR4.to (fun c hc => (Lx_of h1 h4 (fun c hc => Nat.le_trans (hM c hc) (hB.1 c hc)) hfin hc).symm)
          rw [nI_clamp (by omega), (ha k (by omega)).1]
          refine payPlaces_c h1 h4 hr2 hx hR5 (fun F5 hR6 => ⟨vp_in_nI (by omega) (by omega), ?_⟩)
          refine moveAhead_c h1 h4 hr2 hx (L := Lp t (Lv t a k) (a k)) hR6 (fun c hc => Nat.le_trans (Lp_b h1 h4 hB hx hc) (by omega)) (fun M2 F6 hR7 hmv => ?_)
          refine ⟨k + 1, by omega, by omega, nI_1 _, hR7.to (fun p hp => ?_)⟩
          have hb2 : M2 p ≤ 1000000 := by
            obtain ⟨o, ho, -, e⟩ := (hmv p hp).1
            rw [e]
            exact Nat.le_trans (Lp_b h1 h4 hB hx ho) (by omega)
          exact (Lm_of h1 h4 hb2 (hmv p hp)).symm
    · have z : ¬ oN t ≤ k := fun y => z ((nI_leI (by omega) (by omega)).mpr y)
      have hc := hn.2.2.1 k (by omega)
      have hc2 := f_lt h1 h4 _ hc
      rw [nI_clamp (by omega), hO k (by omega)]
      refine ⟨vp_in_nI (by omega) (by omega), vp_in_nI hc2 (by omega), k + 1, by omega, by omega, nI_1 _, fun c hcc hs => ?_⟩
      rw [nI_clamp (by omega)]
      by_cases g : c = oC t k
      · rw [g, pk_us]; rfl
      · rw [pk_un g]
        refine hF c hcc ?_
        have hs' : (seen t c k || decide (oC t k = c)) = true := hs
        rw [decide_eq_false (fun e => g e.symm), Bool.or_false] at hs'
        exact hs'
end C94
