/-! two scans in lockstep, then what is owed -/
theorem sd_inb {th va kw : Nat → Int32} {k D : Nat} (hk : k < 256) (hD : D ≤ 6) (x2 : Int32) : ∀ m j s, j + m = 256 → ∃ r : Int32, (∀ post : Int32 → Prop, post r → wX_inBucket_21 post (nI k) x2 (nI D) th va kw (m + 1) s (nI j)) ∧ (∀ (cn : Nat → Int32) (post : Int32 → SY → Prop), post r (th, va, cn) → wY_inBucket_12 post (nI k) x2 (nI D) th va cn (m + 1) s (nI j)) := by
  intro m
  induction m with
  | zero =>
    intro j s hj
    obtain rfl : j = 256 := by omega
    have h : (256 : Int32) ≤ nI 256 := nI_le (a := 256) (b := 256) (by decide) (by decide)
    exact ⟨-1, fun _ hp => br_t h hp, fun _ _ hp => br_t h hp⟩
  | succ m ih =>
    intro j s hj
    have hj' : j < 256 := by omega
    have h : ¬ (256 : Int32) ≤ nI j := nI_ge (b := 256) hj' (by decide)
    have hin : vp_in (nI j) 256 := vp_in_nI hj' (by decide)
    have hci := nI_clamp (n := j) (by omega)
    have hD0 : ¬ nI D < 0 := nI_pos (by omega)
    have b1 := sd_b8 j (d := D) (by omega)
    have b2 := sd_b8 k (d := D) (by omega)
    by_cases z : th j = 0
    · obtain ⟨r, hX, hY⟩ := ih (j + 1) s (by omega)
      refine ⟨r, fun post hp => br_f h ⟨hin, ?_⟩, fun cn post hp => br_f h (br_f hD0 ⟨hin, ?_⟩)⟩
      · rw [hci]
        exact br_t z (nm_r (nI_1 j) (hX post hp))
      · rw [hci]
        exact br_t z (nm_r (nI_1 j) (hY cn post hp))
    · by_cases y : k % 2 ^ D = j % 2 ^ D
      · have ey : nI (2 ^ D - 1 + j % 2 ^ D) = nI (2 ^ D - 1 + k % 2 ^ D) := by rw [y]
        by_cases x : s = x2
        · refine ⟨nI j, fun post hp => br_f h ⟨hin, ?_⟩, fun cn post hp => br_f h (br_f hD0 ⟨hin, ?_⟩)⟩
          · rw [hci]
            exact br_f z (sd_samX hk hj' hD (fun _ => br_f (by decide) (br_t x hp)) (fun w => absurd y w))
          · rw [hci]
            exact br_f z (sd_endY hj' (by omega) (sd_endY hk (by omega) (br_t ey (br_t x hp))))
        · obtain ⟨r, hX, hY⟩ := ih (j + 1) (s + 1) (by omega)
          refine ⟨r, fun post hp => br_f h ⟨hin, ?_⟩, fun cn post hp => br_f h (br_f hD0 ⟨hin, ?_⟩)⟩
          · rw [hci]
            exact br_f z (sd_samX hk hj' hD (fun _ => br_f (by decide) (br_f x (nm_e (nm_r (nI_1 j) (hX post hp))))) (fun w => absurd y w))
          · rw [hci]
            exact br_f z (sd_endY hj' (by omega) (sd_endY hk (by omega) (br_t ey (br_f x (nm_e (nm_r (nI_1 j) (hY cn post hp)))))))
      · have ey : ¬ nI (2 ^ D - 1 + j % 2 ^ D) = nI (2 ^ D - 1 + k % 2 ^ D) := by
          rw [nI_eq (by omega) (by omega)]
          intro w
          exact y (Nat.add_left_cancel w).symm
        obtain ⟨r, hX, hY⟩ := ih (j + 1) s (by omega)
        refine ⟨r, fun post hp => br_f h ⟨hin, ?_⟩, fun cn post hp => br_f h (br_f hD0 ⟨hin, ?_⟩)⟩
        · rw [hci]
          exact br_f z (sd_samX hk hj' hD (fun w => absurd w y) (fun _ => br_t rfl (nm_r (nI_1 j) (hX post hp))))
        · rw [hci]
          exact br_f z (sd_endY hj' (by omega) (sd_endY hk (by omega) (br_f ey (nm_r (nI_1 j) (hY cn post hp)))))
theorem sd_nxt {th va kw cn : Nat → Int32} {p : Int32} : ∀ m j, j + m = 256 → (∀ i, j ≤ i → i < 256 → ¬ nI i < p) → ∃ r : Int32, (∀ post : Int32 → Prop, post r → wX_next_12 post th va kw (m + 1) (nI j)) ∧ (∀ post : Int32 → Prop, post r → wY_next_2 post p th va cn (m + 1) (nI j)) := by
  intro m
  induction m with
  | zero =>
    intro j hj _
    obtain rfl : j = 256 := by omega
    have h : (256 : Int32) ≤ nI 256 := nI_le (a := 256) (b := 256) (by decide) (by decide)
    exact ⟨-1, fun _ hp => br_t h hp, fun _ hp => br_t h hp⟩
  | succ m ih =>
    intro j hj hq
    have hj' : j < 256 := by omega
    have h : ¬ (256 : Int32) ≤ nI j := nI_ge (b := 256) hj' (by decide)
    have hin : vp_in (nI j) 256 := vp_in_nI hj' (by decide)
    have hci := nI_clamp (n := j) (by omega)
    have hg := hq j (Nat.le_refl j) hj'
    by_cases z : th j = 0
    · obtain ⟨r, hX, hY⟩ := ih (j + 1) (by omega) (fun i h1 h2 => hq i (by omega) h2)
      refine ⟨r, fun post hp => br_f h ⟨hin, ?_⟩, fun post hp => br_f h (br_f hg ⟨hin, ?_⟩)⟩
      · rw [hci]
        exact br_t z (nm_r (nI_1 j) (hX post hp))
      · rw [hci]
        exact br_t z (nm_r (nI_1 j) (hY post hp))
    · refine ⟨nI j, fun post hp => br_f h ⟨hin, ?_⟩, fun post hp => br_f h (br_f hg ⟨hin, ?_⟩)⟩
      · rw [hci]
        exact br_f z hp
      · rw [hci]
        exact br_f z hp
theorem sd_skp {post : Int32 → Prop} {th va cn : Nat → Int32} {p : Int32} {t n : Nat} (ht : t ≤ 256) (hp : ∀ i, i < t → nI i < p) (h : wY_next_2 post p th va cn n (nI t)) : ∀ m j, j + m = t → wY_next_2 post p th va cn (n + m) (nI j) := by
  intro m
  induction m with
  | zero =>
    intro j hj
    obtain rfl : j = t := hj
    exact h
  | succ m ih =>
    intro j hj
    exact br_f (nI_ge (b := 256) (by omega) (by decide)) (br_t (hp j (by omega)) (nm_r (nI_1 j) (ih (j + 1) (by omega))))
/-- the same keys and values on both sides; 0 or 1 for each key; the component's counts are right; the reference's array of counts is free -/
def i_Rel (_ : Nat) (u : SX) (v : SY) : Prop := ∃ th va kw cn : Nat → Int32, u = (th, va, kw) ∧ v = (th, va, cn) ∧ (∀ i, th i = 0 ∨ th i = 1) ∧ sd_K th kw
theorem sd_re {k : Nat} {th va kw cn : Nat → Int32} (hb : ∀ i, th i = 0 ∨ th i = 1) (hc : sd_K th kw) : i_Rel k (th, va, kw) (th, va, cn) := ⟨th, va, kw, cn, rfl, rfl, hb, hc⟩
theorem sd_bu {th : Nat → Int32} (hb : ∀ i, th i = 0 ∨ th i = 1) (k : Nat) {x : Int32} (hx : x = 0 ∨ x = 1) (i : Nat) : upd th k x i = 0 ∨ upd th k x i = 1 := by
  by_cases e : i = k
  · subst e; rw [pk_us]; exact hx
  · rw [pk_un e]; exact hb i
theorem sd_one {x : Int32} (h : x = 0 ∨ x = 1) (z : x ≠ 0) : x = 1 := h.resolve_left z
theorem i_up {k : Nat} {u : SX} {v : SY} (h : i_Rel k u v) : i_Rel (k + 3) u v := h
theorem i_vc0 : wpX_init (fun u => wpY_init (fun v => i_Rel 0 u v)) := by
  refine sd_re (k := 0) (fun _ => Or.inl rfl) fun d _ e _ => ?_
  rw [sd_C, sd_cn_0 (fun i _ => decide_eq_false fun w => w.1 rfl)]
  rfl
theorem i_vc_put {k : Nat} {u : SX} {v : SY} (I : i_Rel k u v) (hk : k + 3 ≤ 1536) (v1 : Int32) (v2 : Int32) : wpX_put (fun r u' => wpY_put (fun r' v' => r' = r ∧ i_Rel (k + 3) u' v') v v1 v2) u v1 v2 := by
  obtain ⟨th, va, kw, cn, rfl, rfl, hb, hc⟩ := I
  by_cases hK : ∃ q, q < 256 ∧ v1 = nI q
  · obtain ⟨q, hq, rfl⟩ := hK
    by_cases z : th q = 0
    · refine sd_putX0 hc hq z (fun hf => ?_) (fun hl kw' hc' => ?_)
      · exact sd_putY hq (fun _ _ => ⟨rfl, sd_re hb hc⟩) (fun w => absurd (w z) (by omega))
      · exact sd_putY hq (fun _ w => absurd w (by omega)) (fun _ cn' => ⟨rfl, sd_re (sd_bu hb q (Or.inr rfl)) hc'⟩)
    · refine sd_putX1 hc hq z (sd_putY hq (fun w => absurd w z) (fun _ cn' => ?_))
      rw [sd_upid (sd_one (hb q) z)]
      exact ⟨rfl, sd_re hb hc⟩
  · exact sd_putXn hK (sd_putYn hK ⟨rfl, sd_re hb hc⟩)
theorem i_vc_remove {k : Nat} {u : SX} {v : SY} (I : i_Rel k u v) (hk : k + 3 ≤ 1536) (v1 : Int32) : wpX_remove (fun r u' => wpY_remove (fun r' v' => r' = r ∧ i_Rel (k + 3) u' v') v v1) u v1 := by
  obtain ⟨th, va, kw, cn, rfl, rfl, hb, hc⟩ := I
  by_cases hK : ∃ q, q < 256 ∧ v1 = nI q
  · obtain ⟨q, hq, rfl⟩ := hK
    by_cases z : th q = 0
    · exact sd_remX0 hq z (sd_remY hq (fun _ => ⟨rfl, sd_re hb hc⟩) (fun w => absurd z w))
    · refine sd_remX1 hc hq (sd_one (hb q) z) fun kw' hc' => ?_
      exact sd_remY hq (fun w => absurd w z) (fun _ cn' => ⟨rfl, sd_re (sd_bu hb q (Or.inl rfl)) hc'⟩)
  · exact sd_remXn hK (sd_remYn hK ⟨rfl, sd_re hb hc⟩)
theorem i_vc_has {k : Nat} {u : SX} {v : SY} (I : i_Rel k u v) (hk : k + 3 ≤ 1536) (v1 : Int32) : wpX_has (fun r => wpY_has (fun r' => r' = r ∧ i_Rel (k + 3) u v) v v1) u v1 := by
  obtain ⟨th, va, kw, cn, rfl, rfl, hb, hc⟩ := I
  by_cases hK : ∃ q, q < 256 ∧ v1 = nI q
  · obtain ⟨q, hq, rfl⟩ := hK
    exact sd_hasX1 hq (fun z => sd_hasY1 hq (fun _ => ⟨rfl, sd_re hb hc⟩) (fun w => absurd z w)) (fun z => sd_hasY1 hq (fun w => absurd w z) (fun _ => ⟨rfl, sd_re hb hc⟩))
  · exact sd_hasXn hK (sd_hasYn hK ⟨rfl, sd_re hb hc⟩)
theorem i_vc_get {k : Nat} {u : SX} {v : SY} (I : i_Rel k u v) (hk : k + 3 ≤ 1536) (v1 : Int32) : wpX_get (fun r => wpY_get (fun r' => r' = r ∧ i_Rel (k + 3) u v) v v1) u v1 := by
  obtain ⟨th, va, kw, cn, rfl, rfl, hb, hc⟩ := I
  unfold wpX_get wpY_get
  dsimp only
  by_cases hK : ∃ q, q < 256 ∧ v1 = nI q
  · obtain ⟨q, hq, rfl⟩ := hK
    have hin : vp_in (nI q) 256 := vp_in_nI hq (by decide)
    refine sd_hasX1 hq (fun z => br_t rfl (sd_hasY1 hq (fun _ => br_t rfl ⟨rfl, sd_re hb hc⟩) (fun w => absurd z w))) (fun z => br_f (by decide) ⟨hin, sd_hasY1 hq (fun w => absurd w z) (fun _ => br_f (by decide) ⟨hin, rfl, sd_re hb hc⟩)⟩)
  · exact sd_hasXn hK (br_t rfl (sd_hasYn hK (br_t rfl ⟨rfl, sd_re hb hc⟩)))
theorem i_vc_size {k : Nat} {u : SX} {v : SY} (I : i_Rel k u v) (hk : k + 3 ≤ 1536) : wpX_size (fun r => wpY_size (fun r' => r' = r ∧ i_Rel (k + 3) u v) v) u := by
  obtain ⟨th, va, kw, cn, rfl, rfl, hb, hc⟩ := I
  exact sd_sizX hc (sd_sizY ⟨rfl, sd_re hb hc⟩)
theorem i_vc_buckets {k : Nat} {u : SX} {v : SY} (I : i_Rel k u v) (hk : k + 3 ≤ 1536) : wpX_buckets (fun r => wpY_buckets (fun r' v' => r' = r ∧ i_Rel (k + 3) u v') v) u := by
  obtain ⟨th, va, kw, cn, rfl, rfl, hb, hc⟩ := I
  exact sd_bkX hc (sd_bkY fun cn' => ⟨rfl, sd_re hb hc⟩)
theorem i_vc_deepest {k : Nat} {u : SX} {v : SY} (I : i_Rel k u v) (hk : k + 3 ≤ 1536) : wpX_deepest (fun r => wpY_deepest (fun r' v' => r' = r ∧ i_Rel (k + 3) u v') v) u := by
  obtain ⟨th, va, kw, cn, rfl, rfl, hb, hc⟩ := I
  exact sd_deeX hc (sd_deeY fun cn' => ⟨rfl, sd_re hb hc⟩)
theorem i_vc_depthOf {k : Nat} {u : SX} {v : SY} (I : i_Rel k u v) (hk : k + 3 ≤ 1536) (v1 : Int32) : wpX_depthOf (fun r => wpY_depthOf (fun r' v' => r' = r ∧ i_Rel (k + 3) u v') v v1) u v1 := by
  obtain ⟨th, va, kw, cn, rfl, rfl, hb, hc⟩ := I
  unfold wpX_depthOf
  dsimp only
  by_cases hK : ∃ q, q < 256 ∧ v1 = nI q
  · obtain ⟨q, hq, rfl⟩ := hK
    exact sd_kyX hq (br_f (by decide) (sd_depX hc hq (sd_depY hq fun cn' _ => ⟨rfl, sd_re hb hc⟩)))
  · exact sd_knX hK (br_t rfl (sd_dpnY hK fun cn' => ⟨rfl, sd_re hb hc⟩))
theorem i_vc_load {k : Nat} {u : SX} {v : SY} (I : i_Rel k u v) (hk : k + 3 ≤ 1536) (v1 : Int32) : wpX_load (fun r => wpY_load (fun r' v' => r' = r ∧ i_Rel (k + 3) u v') v v1) u v1 := by
  obtain ⟨th, va, kw, cn, rfl, rfl, hb, hc⟩ := I
  unfold wpX_load wpY_load
  dsimp only
  by_cases hK : ∃ q, q < 256 ∧ v1 = nI q
  · obtain ⟨q, hq, rfl⟩ := hK
    have h6 := (sd_dp_s th q).1
    refine sd_kyX hq (br_f (by decide) (sd_depX hc hq (sd_endX hq (by omega) ⟨vp_in_nI (sd_b6 q h6) (by decide), sd_depY hq fun cn' hy => ?_⟩)))
    dsimp only
    refine br_t (nI_pos' (by omega)) (sd_endY hq (by omega) ⟨vp_in_nI (sd_b8 q (by omega)) (by decide), ?_, sd_re hb hc⟩)
    rw [sd_yc hy q (by omega), sd_kc hc q h6]
  · refine sd_knX hK (br_t rfl (sd_dpnY hK fun cn' => ?_))
    exact br_f (by decide) ⟨rfl, sd_re hb hc⟩
theorem i_vc_inBucket {k : Nat} {u : SX} {v : SY} (I : i_Rel k u v) (hk : k + 3 ≤ 1536) (v1 : Int32) (v2 : Int32) : wpX_inBucket (fun r => wpY_inBucket (fun r' v' => r' = r ∧ i_Rel (k + 3) u v') v v1 v2) u v1 v2 := by
  obtain ⟨th, va, kw, cn, rfl, rfl, hb, hc⟩ := I
  unfold wpX_inBucket wpY_inBucket
  dsimp only
  by_cases hK : ∃ q, q < 256 ∧ v1 = nI q
  · obtain ⟨q, hq, rfl⟩ := hK
    have h6 := (sd_dp_s th q).1
    refine sd_kyX hq (br_f (by decide) (sd_depX hc hq ⟨257, ?_⟩))
    obtain ⟨r, hX, hY⟩ := sd_inb (th := th) (va := va) (kw := kw) hq h6 v2 256 0 0 rfl
    exact hX _ (sd_depY hq fun cn' _ => ⟨257, hY cn' _ ⟨rfl, sd_re hb hc⟩⟩)
  · refine sd_knX hK (br_t rfl (sd_dpnY hK fun cn' => ?_))
    exact ⟨1, br_f (by decide) (br_t (by decide) ⟨rfl, sd_re hb hc⟩)⟩
theorem i_vc_together {k : Nat} {u : SX} {v : SY} (I : i_Rel k u v) (hk : k + 3 ≤ 1536) (v1 : Int32) (v2 : Int32) : wpX_together (fun r => wpY_together (fun r' v' => r' = r ∧ i_Rel (k + 3) u v') v v1 v2) u v1 v2 := by
  obtain ⟨th, va, kw, cn, rfl, rfl, hb, hc⟩ := I
  unfold wpX_together wpY_together
  dsimp only
  by_cases hK : ∃ q, q < 256 ∧ v1 = nI q
  · obtain ⟨q, hq, rfl⟩ := hK
    have h6 := (sd_dp_s th q).1
    have hD0 : ¬ nI (sd_dp th q) < 0 := nI_pos (by omega)
    refine sd_kyX hq (br_f (by decide) ?_)
    by_cases hL : ∃ p, p < 256 ∧ v2 = nI p
    · obtain ⟨p, hp, rfl⟩ := hL
      have b1 := sd_b8 q (d := sd_dp th q) (by omega)
      have b2 := sd_b8 p (d := sd_dp th q) (by omega)
      refine sd_kyX hp (br_f (by decide) (sd_depX hc hq (sd_samX hq hp h6 (fun e => ⟨rfl, ?_⟩) (fun e => ⟨rfl, ?_⟩))))
      · refine sd_depY hq fun cn' _ => ?_
        refine br_f hD0 (sd_kyY hp (br_f (by decide) (sd_endY hq (by omega) (sd_endY hp (by omega) ?_))))
        exact br_t (by rw [e]) ⟨rfl, sd_re hb hc⟩
      · refine sd_depY hq fun cn' _ => ?_
        refine br_f hD0 (sd_kyY hp (br_f (by decide) (sd_endY hq (by omega) (sd_endY hp (by omega) ?_))))
        refine br_f ?_ ⟨rfl, sd_re hb hc⟩
        rw [nI_eq (by omega) (by omega)]
        exact fun w => e (Nat.add_left_cancel w)
    · refine sd_knX hL (br_t rfl (sd_depY hq fun cn' _ => ?_))
      exact br_f hD0 (sd_knY hL (br_t rfl ⟨rfl, sd_re hb hc⟩))
  · refine sd_knX hK (br_t rfl (sd_dpnY hK fun cn' => ?_))
    exact br_t (by decide) ⟨rfl, sd_re hb hc⟩
theorem i_vc_ofDepth {k : Nat} {u : SX} {v : SY} (I : i_Rel k u v) (hk : k + 3 ≤ 1536) (v1 : Int32) : wpX_ofDepth (fun r => wpY_ofDepth (fun r' v' => r' = r ∧ i_Rel (k + 3) u v') v v1) u v1 := by
  obtain ⟨th, va, kw, cn, rfl, rfl, hb, hc⟩ := I
  by_cases hK : ∃ d, d ≤ 6 ∧ v1 = nI d
  · obtain ⟨d, hd, rfl⟩ := hK
    exact sd_odX hc hd (sd_odY (by omega) fun cn' => ⟨rfl, sd_re hb hc⟩)
  · refine sd_onX hK ?_
    by_cases hL : ∃ d, d ≤ 8 ∧ v1 = nI d
    · obtain ⟨d, hd, rfl⟩ := hL
      have h7 : 6 < d := by
        by_cases z : 6 < d
        · exact z
        · exact absurd ⟨d, by omega, rfl⟩ hK
      refine sd_odY hd fun cn' => ⟨?_, sd_re hb hc⟩
      rw [sd_o7 th h7, nI_0]
    · exact sd_onY hL fun cn' => ⟨rfl, sd_re hb hc⟩
theorem i_vc_next {k : Nat} {u : SX} {v : SY} (I : i_Rel k u v) (hk : k + 3 ≤ 1536) (v1 : Int32) : wpX_next (fun r => wpY_next (fun r' => r' = r ∧ i_Rel (k + 3) u v) v v1) u v1 := by
  obtain ⟨th, va, kw, cn, rfl, rfl, hb, hc⟩ := I
  by_cases h0 : 0 ≤ v1
  · refine br_t h0 ?_
    obtain ⟨q, hq, rfl⟩ := nI_of (Int32.not_lt.mpr h0)
    by_cases z : q ≤ 256
    · obtain ⟨r, hX, hY⟩ := sd_nxt (th := th) (va := va) (kw := kw) (cn := cn) (p := nI q) (256 - q) q (by omega) (fun i h1 h2 => nI_nlt h1 (by omega))
      exact ⟨_, hX _ ⟨_, sd_skp z (fun i hi => nI_lt hi hq) (hY _ ⟨rfl, sd_re hb hc⟩) q 0 (Nat.zero_add q)⟩⟩
    · refine ⟨1, br_t (nI_le (a := 256) (b := q) (by omega) hq) ?_⟩
      refine ⟨_, sd_skp (t := 256) (n := 1) (Nat.le_refl 256) (fun i hi => nI_lt (by omega) hq) ?_ 256 0 rfl⟩
      exact br_t (nI_le (a := 256) (b := 256) (by decide) (by decide)) ⟨rfl, sd_re hb hc⟩
  · refine br_f h0 ?_
    have hn : v1 < 0 := Int32.not_le.mp h0
    obtain ⟨r, hX, hY⟩ := sd_nxt (th := th) (va := va) (kw := kw) (cn := cn) (p := v1) 256 0 rfl (fun i _ h2 w => nI_pos (n := i) (by omega) (Int32.lt_trans w hn))
    exact ⟨257, hX _ ⟨257, hY _ ⟨rfl, sd_re hb hc⟩⟩⟩
theorem i_vc_growth {k : Nat} {u : SX} {v : SY} (I : i_Rel k u v) (hk : k + 3 ≤ 1536) (v1 : Int32) : wpX_growth (fun r => wpY_growth (fun r' v' => r' = r ∧ i_Rel (k + 3) u v') v v1) u v1 := by
  obtain ⟨th, va, kw, cn, rfl, rfl, hb, hc⟩ := I
  by_cases hK : ∃ q, q < 256 ∧ v1 = nI q
  · obtain ⟨q, hq, rfl⟩ := hK
    refine sd_groX hc hq (fun z => sd_groY hb hq fun cn' => ⟨?_, sd_re hb hc⟩) (fun z => sd_groY hb hq fun cn' => ⟨?_, sd_re hb hc⟩)
    · rw [sd_upid (sd_one (hb q) z), pk_sub (Nat.le_refl _), Nat.sub_self, nI_0]
    · rw [sd_bkup z hq, pk_sub (Nat.le_add_right _ _), Nat.add_sub_cancel_left]
  · exact sd_groXn hK (sd_groYn hK ⟨rfl, sd_re hb hc⟩)
