/-! ===== the reference's orders ===== -/
/-- the orders, place by place, as the reference's array holds them -/
def OM (t : Nat) (F : Nat → Int32) : Prop := ∀ o, o < oN t → ∀ j, j < t → F (4 * o + j) = nI (tA (oC t o) j)
theorem ix4 (o j : Nat) : ((4 : Int32) * nI o) + nI j = nI (4 * o + j) := by
  rw [show (4 : Int32) = nI 4 from rfl, pk_mul, nI_add]
def isM (t c : Nat) : Nat → Bool
  | 0 => Nat.beq (c / 4 ^ t) 0
  | j + 1 => isM t c j && decide (tA c j < t) && Nat.beq (msk c j / 2 ^ tA c j % 2) 0
set_option maxRecDepth 100000 in
theorem f_im {t : Nat} (h1 : 1 ≤ t) (h4 : t ≤ 4) : ∀ c, c < 256 → isM t c t = isO t c := f_all (P := fun t => ∀ c, c < 256 → isM t c t = isO t c) h1 h4 (by decide +kernel) (by decide +kernel) (by decide +kernel) (by decide +kernel)
def bI (b : Bool) : Int32 := if b then 1 else 0
theorem bI_0 {b : Bool} : bI b = 0 ↔ b = false := by cases b <;> decide
theorem bI_or (b : Bool) : bI b = 0 ∨ bI b = 1 := by cases b <;> decide
theorem bI_eq {a b : Bool} : bI a = bI b ↔ a = b := by cases a <;> cases b <;> decide
section M92
variable {mkd mrt mri mca mpr men mrq mos : Int32} {mtr : Int64} {t q : Nat} {a : Nat → Nat} {mqF moF : Nat → Int32}
theorem ordersOf_m (h1 : 1 ≤ t) (h4 : t ≤ 4) {K : Int32 → (Nat → Int32) → Prop} (hK : ∀ F, OM t F → K (nI (oN t)) F) : g_X7_ordersOf mkd mrt mri mca mpr men (nI t) mrq mtr mos moF K := by
  have hn := f_nn h1 h4
  have hl := f_li h1 h4
  have h24 : ∀ c, c ≤ 256 → (pre t c).length ≤ 24 := by
    intro c hc
    obtain ⟨s, hs⟩ := pre_app t c (256 - c)
    rw [show c + (256 - c) = 256 by omega, hl] at hs
    have hlen : (oT t).length = (pre t c).length + s.length := by rw [hs, List.length_append]
    have h24 : (oT t).length ≤ 24 := hn.1
    omega
  unfold g_X7_ordersOf
  refine ⟨fun n v m F => ∃ c, c ≤ 256 ∧ n = 257 - c ∧ v = nI c ∧ m = nI (pre t c).length ∧ ∀ i v, (pre t c)[i]? = some v → ∀ j, j < t → F (4 * i + j) = nI (tA v j), ⟨257, 0, by omega, rfl, rfl, rfl, fun i v h => by simp [pre] at h⟩, ?_, ?_⟩
  · rintro v m F ⟨c, h, h', -⟩
    omega
  · rintro n v m F ⟨c, hc, hn2, rfl, rfl, hF⟩
    refine ⟨fun z => ?_, fun z => ?_⟩
    · have z := (nI_leI (a := 256) (by omega) (by omega)).mp z
      have : c = 256 := by omega
      subst this
      rw [hl]
      refine hK F (fun o ho j hj => ?_)
      have ho : o < (oT t).length := ho
      have e : (oT t)[o]? = some ((oT t)[o]) := List.getElem?_eq_getElem ho
      rw [hF o _ (by rw [hl]; exact e) j hj]
      unfold oC
      rw [e]
      rfl
    · have z : ¬ 256 ≤ c := fun q => z ((nI_leI (a := 256) (by omega) (by omega)).mpr q)
      have hcd : c / 4 ^ t ≤ c := Nat.div_le_self _ _
      rw [f_sh c (by omega) t (by omega)]
      have him := f_im h1 h4 c (by omega)
      refine ⟨fun v => v = bI (isM t c 0), ?_, fun y => ?_, fun y => ?_⟩
      · rintro v rfl
        refine ⟨fun n m v i => ∃ j, j ≤ t ∧ n = t - j + 1 ∧ m = nI (msk c j) ∧ v = bI (isM t c j) ∧ i = nI j, ⟨t + 1, 0, by omega, by omega, rfl, rfl, rfl⟩, ?_, ?_⟩
        · rintro m v i ⟨j, h, h', -⟩
          omega
        · rintro n3 m v i ⟨j, hj, hn3, rfl, rfl, rfl⟩
          have hmb := msk_b c j
          have htb := tA_b c j
          refine ⟨fun y => ?_, fun y => ?_⟩
          · have y := (nI_leI (by omega) (by omega)).mp y
            have hjt : j = t := by omega
            subst hjt
            rw [him]
            cases hio : isO j c with
            | false =>
              have e : pre j (c + 1) = pre j c := by
                show (if isO j c then pre j c ++ [c] else pre j c) = _
                rw [if_neg (by rw [hio]; decide)]
              refine ⟨fun n4 i F4 => n4 = 1 ∧ F4 = F, ⟨1, rfl, rfl⟩, fun i F4 h => by omega, ?_⟩
              rintro n4 i F4 ⟨hn4, rfl⟩
              refine ⟨True, fun _ => ⟨fun v => v = 0, ?_, fun _ => rfl, fun w => absurd rfl w⟩, fun _ => trivial, fun _ => ⟨fun _ => trivial, fun w => absurd rfl w⟩⟩
              rintro v rfl
              refine ⟨c + 1, by omega, by omega, nI_1 _, ?_, ?_⟩
              · rw [e]; exact nI_add _ 0
              · rw [e]; exact hF
            | true =>
              have e : pre j (c + 1) = pre j c ++ [c] := by
                show (if isO j c then pre j c ++ [c] else pre j c) = _
                rw [if_pos hio]
              have h25 := h24 (c + 1) (by omega)
              rw [e, List.length_append] at h25
              have h25 : (pre j c).length + 1 ≤ 24 := h25
              refine ⟨fun n4 i F4 => ∃ w, w ≤ j ∧ n4 = j - w + 1 ∧ i = nI w ∧ (∀ x, x < 4 * (pre j c).length → F4 x = F x) ∧ ∀ x, x < w → F4 (4 * (pre j c).length + x) = nI (tA c x), ⟨j + 1, 0, by omega, by omega, rfl, fun x _ => rfl, fun x hx => by omega⟩, ?_, ?_⟩
              · rintro i F4 ⟨w, h, h', -⟩
                omega
              · rintro n4 i F4 ⟨w, hw, hn4, rfl, hk1, hk2⟩
                refine ⟨w = j, fun hwj => ⟨fun v => v = 1, ?_, fun w => absurd w one0, fun _ => rfl⟩, fun u => ?_, fun u => ⟨fun x => absurd x one0, fun _ => ?_⟩⟩
                · rintro v rfl
                  subst hwj
                  refine ⟨c + 1, by omega, by omega, nI_1 _, ?_, fun i v hv x hx => ?_⟩
                  · rw [e, nI_1, List.length_append]; rfl
                  · rw [e] at hv
                    by_cases g : i < (pre w c).length
                    · rw [List.getElem?_append_left g] at hv
                      rw [hk1 _ (by omega)]
                      exact hF i v hv x hx
                    · rw [List.getElem?_append_right (by omega)] at hv
                      have hz : i - (pre w c).length < 1 := (List.getElem?_eq_some_iff.mp hv).1
                      have : i = (pre w c).length := by omega
                      subst this
                      rw [Nat.sub_self] at hv
                      cases hv
                      exact hk2 x hx
                · have u := (nI_leI (by omega) (by omega)).mp u
                  omega
                · have u : ¬ j ≤ w := fun x => u ((nI_leI (by omega) (by omega)).mpr x)
                  rw [ix4, f_ta c (by omega) w (by omega), nI_clamp (by omega)]
                  refine ⟨vp_in_nI (by omega) (by omega), w + 1, by omega, by omega, nI_1 _, fun x hx => ?_, fun x hx => ?_⟩
                  · rw [pk_un (by omega)]; exact hk1 x hx
                  · by_cases g : x = w
                    · rw [g, pk_us]
                    · rw [pk_un (by omega)]; exact hk2 x (by omega)
          · have y : ¬ t ≤ j := fun x => y ((nI_leI (by omega) (by omega)).mpr x)
            have hdv : msk c j / 2 ^ tA c j % 2 < 2 := Nat.mod_lt _ (by omega)
            rw [f_ta c (by omega) j (by omega), (f_mk (msk c j) hmb (tA c j) htb).1, f_mb (msk c j) hmb (tA c j) htb]
            have hs : isM t c (j + 1) = (isM t c j && decide (tA c j < t) && Nat.beq (msk c j / 2 ^ tA c j % 2) 0) := rfl
            refine ⟨fun v => v = bI (isM t c (j + 1)), ?_, isM t c (j + 1) = false, fun w => ?_, fun w => ?_, fun w => ⟨fun x => ?_, fun x => ⟨fun g => ?_, fun g => ?_⟩⟩⟩
            · rintro v rfl
              exact ⟨j + 1, by omega, by omega, rfl, rfl, nI_1 _⟩
            · show (0 : Int32) = bI (isM t c (j + 1))
              rw [w]; rfl
            · rw [hs, bI_0.mp w]; rfl
            · have x := (nI_leI (by omega) (by omega)).mp x
              rw [hs, decide_eq_false (by omega), Bool.and_false]; rfl
            · have g : ¬ msk c j / 2 ^ tA c j % 2 = 0 := fun u => g (by rw [u]; rfl)
              rw [hs, show Nat.beq (msk c j / 2 ^ tA c j % 2) 0 = false from Bool.eq_false_iff.mpr (fun u => g (Nat.eq_of_beq_eq_true u)), Bool.and_false]
            · have x : ¬ t ≤ tA c j := fun u => x ((nI_leI (by omega) (by omega)).mpr u)
              have g := (nI_eq (b := 0) (by omega) (by omega)).mp g
              have w : isM t c j = true := by
                cases hb : isM t c j with
                | true => rfl
                | false => exact absurd (by rw [hb]; rfl) w
              show (1 : Int32) = bI (isM t c (j + 1))
              rw [hs, w, decide_eq_true (by omega), g, Nat.beq_refl]
              rfl
      · have y : ¬ c / 4 ^ t = 0 := fun x => y (by rw [x]; rfl)
        show (0 : Int32) = bI (Nat.beq (c / 4 ^ t) 0)
        rw [show Nat.beq (c / 4 ^ t) 0 = false from Bool.eq_false_iff.mpr (fun u => y (Nat.eq_of_beq_eq_true u))]
        rfl
      · have y := (nI_eq (b := 0) (by omega) (by omega)).mp y
        show (1 : Int32) = bI (Nat.beq (c / 4 ^ t) 0)
        rw [y]
        rfl
theorem placeIn_m (h1 : 1 ≤ t) (h4 : t ≤ 4) (hm : OM t moF) {o x : Nat} (ho : o < oN t) (hx : x < t) {K : Int32 → Prop} (hK : K (nI (pl t (oC t o) x))) : g_X7_placeIn mkd mrt mri mca mpr men (nI t) mrq mtr mos moF (nI o) (nI x) K := by
  have hn := f_nn h1 h4
  have hc := hn.2.2.1 o ho
  obtain ⟨p1, p2, p3⟩ := f_pl h1 h4 _ hc x hx
  unfold g_X7_placeIn
  refine ⟨fun n v => ∃ u, u ≤ pl t (oC t o) x ∧ n = pl t (oC t o) x - u + 1 ∧ v = nI u, ⟨pl t (oC t o) x + 1, 0, by omega, by omega, rfl⟩, ?_, ?_⟩
  · rintro v ⟨u, h, h', -⟩
    omega
  · rintro n v ⟨u, hu, hn2, rfl⟩
    have hd := f_dg h1 h4 _ hc u (by omega)
    rw [ix4, nI_clamp (by omega), hm o ho u (by omega)]
    refine ⟨vp_in_nI (by omega) (by omega), fun e => ?_, fun e => ?_⟩
    · have e := (nI_eq (by omega) (by omega)).mp e
      have : u = pl t (oC t o) x := by
        by_cases w : u < pl t (oC t o) x
        · exact absurd e (p3 u w)
        · omega
      rw [this]
      exact hK
    · have e : ¬ tA (oC t o) u = x := fun w => e (by rw [w])
      have : ¬ u = pl t (oC t o) x := fun w => e (by rw [w]; exact p2)
      exact ⟨u + 1, by omega, by omega, nI_1 _⟩
theorem staysCost_m {mos : Int32} (h1 : 1 ≤ t) (h4 : t ≤ 4) (hm : OM t moF) (hq : q ≤ 16) (ha : AK t q a mqF) {o : Nat} (ho : o < oN t) {K : Int32 → Prop} (hK : K (nI (sC t a (oC t o) q))) : g_X7_staysCost mkd mrt mri mca mpr men (nI t) (nI q) mtr mos mqF moF (nI o) K := by
  unfold g_X7_staysCost
  refine ⟨fun n s i => ∃ k, k ≤ q ∧ n = q - k + 1 ∧ s = nI (sC t a (oC t o) k) ∧ i = nI k, ⟨q + 1, 0, by omega, by omega, rfl, rfl⟩, ?_, ?_⟩
  · rintro s i ⟨j, h, h', -⟩
    omega
  · rintro n s i ⟨k, hk, hn, rfl, rfl⟩
    refine ⟨fun z => ?_, fun z => ?_⟩
    · have z := (nI_leI (by omega) (by omega)).mp z
      have : k = q := by omega
      subst this
      exact hK
    · have z : ¬ q ≤ k := fun y => z ((nI_leI (by omega) (by omega)).mpr y)
      have hx := (ha k (by omega)).2
      refine ⟨vp_in_nI (by omega) (by omega), ?_⟩
      rw [nI_clamp (by omega), (ha k (by omega)).1]
      refine placeIn_m h1 h4 hm ho hx ⟨k + 1, by omega, by omega, ?_, nI_1 _⟩
      rw [nI_1, nI_add]
      rfl
theorem apart_m (h1 : 1 ≤ t) (h4 : t ≤ 4) (hm : OM t moF) {o p : Nat} (ho : o < oN t) (hp : p < oN t) {K : Int32 → Prop} (hK : K (nI (dst t (oC t o) (oC t p)))) : g_X7_apart mkd mrt mri mca mpr men (nI t) mrq mtr mos moF (nI o) (nI p) K := by
  have hn := f_nn h1 h4
  have ho' := f_pl h1 h4 _ (hn.2.2.1 o ho)
  have hp' := f_pl h1 h4 _ (hn.2.2.1 p hp)
  unfold g_X7_apart
  refine ⟨fun n s i => ∃ k, k ≤ t ∧ n = t - k + 1 ∧ s = nI (dA t (oC t o) (oC t p) k) ∧ i = nI k, ⟨t + 1, 0, by omega, by omega, rfl, rfl⟩, ?_, ?_⟩
  · rintro s i ⟨j, h, h', -⟩
    omega
  · rintro n s i ⟨k, hk, hn2, rfl, rfl⟩
    refine ⟨fun z => ?_, fun z => ?_⟩
    · have z := (nI_leI (by omega) (by omega)).mp z
      have : k = t := by omega
      subst this
      exact hK
    · have z : ¬ t ≤ k := fun y => z ((nI_leI (by omega) (by omega)).mpr y)
      refine ⟨fun n s i => ∃ b, b ≤ k ∧ n = k - b + 1 ∧ s = nI (dA t (oC t o) (oC t p) k + dB t (oC t o) (oC t p) k b) ∧ i = nI b, ⟨k + 1, 0, by omega, by omega, rfl, rfl⟩, ?_, ?_⟩
      · rintro s i ⟨j, h, h', -⟩
        omega
      · rintro n3 s i ⟨b, hb, hn3, rfl, rfl⟩
        refine ⟨fun y => ?_, fun y => ?_⟩
        · have y := (nI_leI (by omega) (by omega)).mp y
          have : b = k := by omega
          subst this
          exact ⟨b + 1, by omega, by omega, rfl, nI_1 _⟩
        · have y : ¬ k ≤ b := fun x => y ((nI_leI (by omega) (by omega)).mpr x)
          have q1 := (ho' k (by omega)).1
          have q2 := (ho' b (by omega)).1
          have q3 := (hp' k (by omega)).1
          have q4 := (hp' b (by omega)).1
          refine placeIn_m h1 h4 hm ho (by omega) (placeIn_m h1 h4 hm ho (by omega) ?_)
          refine ⟨fun v => v = bI (decide (pl t (oC t o) k < pl t (oC t o) b)), ?_, fun w => ?_, fun w => ?_⟩
          · rintro v rfl
            refine placeIn_m h1 h4 hm hp (by omega) (placeIn_m h1 h4 hm hp (by omega) ?_)
            refine ⟨fun v => v = bI (decide (pl t (oC t p) k < pl t (oC t p) b)), ?_, fun w => ?_, fun w => ?_⟩
            · rintro v rfl
              refine ⟨fun v => v = nI (dI t (oC t o) (oC t p) k b), ?_, fun w => ?_, fun w => ?_⟩
              · rintro v rfl
                refine ⟨b + 1, by omega, by omega, ?_, nI_1 _⟩
                rw [nI_add, Nat.add_assoc]
                rfl
              · have w := bI_eq.mp w
                show (0 : Int32) = nI (dI t (oC t o) (oC t p) k b)
                unfold dI
                rw [if_pos w]
                rfl
              · have w := fun u => w (bI_eq.mpr u)
                show (1 : Int32) = nI (dI t (oC t o) (oC t p) k b)
                unfold dI
                rw [if_neg w]
                rfl
            · have w := (nI_leI (by omega) (by omega)).mp w
              show (0 : Int32) = _
              rw [decide_eq_false (by omega)]
              rfl
            · have w : ¬ pl t (oC t p) b ≤ pl t (oC t p) k := fun u => w ((nI_leI (by omega) (by omega)).mpr u)
              show (1 : Int32) = _
              rw [decide_eq_true (by omega)]
              rfl
          · have w := (nI_leI (by omega) (by omega)).mp w
            show (0 : Int32) = _
            rw [decide_eq_false (by omega)]
            rfl
          · have w : ¬ pl t (oC t o) b ≤ pl t (oC t o) k := fun u => w ((nI_leI (by omega) (by omega)).mpr u)
            show (1 : Int32) = _
            rw [decide_eq_true (by omega)]
            rfl
theorem comesOf_m (h1 : 1 ≤ t) (h4 : t ≤ 4) (hm : OM t moF) {o p x : Nat} (ho : o < oN t) (hp : p < oN t) (hx : x < t) {K : Int32 → Prop} (hK : K (bI (cO t (oC t o) (oC t p) x))) : g_X7_comesOf mkd mrt mri mca mpr men (nI t) mrq mtr mos moF (nI o) (nI p) (nI x) K := by
  have hn := f_nn h1 h4
  have ho' := f_pl h1 h4 _ (hn.2.2.1 o ho)
  have hp' := f_pl h1 h4 _ (hn.2.2.1 p hp)
  have ox := (ho' x hx).1
  have px := (hp' x hx).1
  unfold g_X7_comesOf
  refine placeIn_m h1 h4 hm hp hx (placeIn_m h1 h4 hm ho hx ?_)
  refine ⟨fun v => v = bI (decide (pl t (oC t p) x ≤ pl t (oC t o) x)), ?_, fun w => ?_, fun w => ?_⟩
  · rintro v rfl
    refine ⟨fun n s i => ∃ k, k ≤ t ∧ n = t - k + 1 ∧ s = bI (cA t (oC t o) (oC t p) x k) ∧ i = nI k, ⟨t + 1, 0, by omega, by omega, rfl, rfl⟩, ?_, ?_⟩
    · rintro s i ⟨j, h, h', -⟩
      omega
    · rintro n s i ⟨k, hk, hn2, rfl, rfl⟩
      refine ⟨fun z => ?_, fun z => ?_⟩
      · have z := (nI_leI (by omega) (by omega)).mp z
        have : k = t := by omega
        subst this
        exact ⟨bI_or _, hK⟩
      · have z : ¬ t ≤ k := fun y => z ((nI_leI (by omega) (by omega)).mpr y)
        refine ⟨fun n s i => ∃ b, b ≤ k ∧ n = k - b + 1 ∧ s = bI (cA t (oC t o) (oC t p) x k && cB t (oC t o) (oC t p) x k b) ∧ i = nI b, ⟨k + 1, 0, by omega, by omega, by rw [show cB t (oC t o) (oC t p) x k 0 = true from rfl, Bool.and_true], rfl⟩, ?_, ?_⟩
        · rintro s i ⟨j, h, h', -⟩
          omega
        · rintro n3 s i ⟨b, hb, hn3, rfl, rfl⟩
          refine ⟨fun y => ?_, fun y => ?_⟩
          · have y := (nI_leI (by omega) (by omega)).mp y
            have : b = k := by omega
            subst this
            exact ⟨b + 1, by omega, by omega, rfl, nI_1 _⟩
          · have y : ¬ k ≤ b := fun x => y ((nI_leI (by omega) (by omega)).mpr x)
            have q1 := (ho' k (by omega)).1
            have q2 := (ho' b (by omega)).1
            have q3 := (hp' k (by omega)).1
            have q4 := (hp' b (by omega)).1
            have hs : (cA t (oC t o) (oC t p) x k && cB t (oC t o) (oC t p) x k (b + 1)) = ((cA t (oC t o) (oC t p) x k && cB t (oC t o) (oC t p) x k b) && (decide (k = x) || decide (b = x) || decide (pl t (oC t o) k < pl t (oC t o) b) == decide (pl t (oC t p) k < pl t (oC t p) b))) := by rw [Bool.and_assoc]; rfl
            refine ⟨fun v => v = bI (!(decide (k = x) || decide (b = x))), ?_, k = x ∨ b = x, fun w => ?_, fun w => ?_, fun w => ⟨fun u => ?_, fun u => ?_⟩⟩
            · rintro v rfl
              refine ⟨fun v => v = bI (cA t (oC t o) (oC t p) x k && cB t (oC t o) (oC t p) x k (b + 1)), ?_, (cA t (oC t o) (oC t p) x k && cB t (oC t o) (oC t p) x k (b + 1)) = false, fun w => ?_, fun w => ?_, fun w => ?_⟩
              · rintro v rfl
                exact ⟨b + 1, by omega, by omega, rfl, nI_1 _⟩
              · show (0 : Int32) = _
                rw [w]; rfl
              · rw [hs, bI_0.mp w]; rfl
              · have w : (cA t (oC t o) (oC t p) x k && cB t (oC t o) (oC t p) x k b) = true := by
                  cases hb : (cA t (oC t o) (oC t p) x k && cB t (oC t o) (oC t p) x k b) with
                  | true => rfl
                  | false => exact absurd (by rw [hb]; rfl) w
                rw [hs, w, Bool.true_and]
                refine ⟨(decide (k = x) || decide (b = x) || decide (pl t (oC t o) k < pl t (oC t o) b) == decide (pl t (oC t p) k < pl t (oC t p) b)) = true, fun u => ?_, fun u => ?_, fun u => ?_⟩
                · show (1 : Int32) = _
                  rw [u]; rfl
                · have u := bI_0.mp u
                  have u : (decide (k = x) || decide (b = x)) = true := by
                    cases hb : (decide (k = x) || decide (b = x)) with
                    | true => rfl
                    | false => rw [hb] at u; exact absurd u (by decide)
                  rw [u]; rfl
                · have u : (decide (k = x) || decide (b = x)) = false := by
                    cases hb : (decide (k = x) || decide (b = x)) with
                    | false => rfl
                    | true => exact absurd (by rw [hb]; rfl) u
                  rw [u, Bool.false_or]
                  refine placeIn_m h1 h4 hm ho (by omega) (placeIn_m h1 h4 hm ho (by omega) ?_)
                  refine ⟨fun v => v = bI (decide (pl t (oC t o) k < pl t (oC t o) b)), ?_, fun w => ?_, fun w => ?_⟩
                  · rintro v rfl
                    refine placeIn_m h1 h4 hm hp (by omega) (placeIn_m h1 h4 hm hp (by omega) ?_)
                    refine ⟨fun v => v = bI (decide (pl t (oC t p) k < pl t (oC t p) b)), ?_, fun w => ?_, fun w => ?_⟩
                    · rintro v rfl
                      refine ⟨fun g => ?_, fun g => ?_⟩
                      · have g := fun e => g (bI_eq.mpr e)
                        exact Bool.eq_false_iff.mpr (fun e => g (eq_of_beq e))
                      · have g := bI_eq.mp g
                        rw [g]
                        exact beq_self_eq_true _
                    · have w := (nI_leI (by omega) (by omega)).mp w
                      show (0 : Int32) = _
                      rw [decide_eq_false (by omega)]
                      rfl
                    · have w : ¬ pl t (oC t p) b ≤ pl t (oC t p) k := fun u => w ((nI_leI (by omega) (by omega)).mpr u)
                      show (1 : Int32) = _
                      rw [decide_eq_true (by omega)]
                      rfl
                  · have w := (nI_leI (by omega) (by omega)).mp w
                    show (0 : Int32) = _
                    rw [decide_eq_false (by omega)]
                    rfl
                  · have w : ¬ pl t (oC t o) b ≤ pl t (oC t o) k := fun u => w ((nI_leI (by omega) (by omega)).mpr u)
                    show (1 : Int32) = _
                    rw [decide_eq_true (by omega)]
                    rfl
            · show (0 : Int32) = _
              rcases w with w | w
              · rw [decide_eq_true w]; rfl
              · rw [decide_eq_true w, Bool.or_true]; rfl
            · exact Or.inl ((nI_eq (by omega) (by omega)).mp w)
            · exact Or.inr ((nI_eq (by omega) (by omega)).mp u)
            · show (1 : Int32) = _
              rw [decide_eq_false (fun e => w (by rw [e])), decide_eq_false (fun e => u (by rw [e]))]
              rfl
  · have w := (nI_ltI (by omega) (by omega)).mp w
    show (0 : Int32) = _
    rw [decide_eq_false (by omega)]
    rfl
  · have w : ¬ pl t (oC t o) x < pl t (oC t p) x := fun u => w ((nI_ltI (by omega) (by omega)).mpr u)
    show (1 : Int32) = _
    rw [decide_eq_true (by omega)]
    rfl
end M92
