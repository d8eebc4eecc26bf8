section
/-! the pure picture: how many keys have an ending, the depth of a key's bucket, the number of buckets -/
theorem pk_us {f : Nat → Int32} {k : Nat} {x : Int32} : upd f k x k = x := if_pos rfl
theorem pk_un {f : Nat → Int32} {k j : Nat} {x : Int32} (h : j ≠ k) : upd f k x j = f j := if_neg h
theorem pk_sub {a b : Nat} (h : b ≤ a) : nI a - nI b = nI (a - b) := by
  obtain ⟨c, rfl⟩ : ∃ c, a = c + b := ⟨a - b, by omega⟩
  rw [← nI_add, Int32.add_sub_cancel, Nat.add_sub_cancel]
theorem pk_m1 (n : Nat) : nI (n + 1) + (-1) = nI n := by
  rw [← nI_1, Int32.add_assoc, show (1 : Int32) + (-1) = 0 from rfl, Int32.add_zero]
theorem pk_le {x y : Int32} {A B : Prop} (a b : Nat) (f : a ≤ b → A) (g : b < a → B) (hx : x = nI a := by rfl) (hy : y = nI b := by rfl) (ha : a < 2 ^ 31 := by omega) (hb : b < 2 ^ 31 := by omega) : (x ≤ y → A) ∧ (¬ x ≤ y → B) := by
  subst hx hy
  rw [nI_leI ha hb]
  exact ⟨f, fun z => g (by omega)⟩
theorem pk_lt {x y : Int32} {A B : Prop} (a b : Nat) (f : a < b → A) (g : b ≤ a → B) (hx : x = nI a := by rfl) (hy : y = nI b := by rfl) (ha : a < 2 ^ 31 := by omega) (hb : b < 2 ^ 31 := by omega) : (x < y → A) ∧ (¬ x < y → B) := by
  subst hx hy
  rw [nI_ltI ha hb]
  exact ⟨f, fun z => g (by omega)⟩
theorem pk_eq {x y : Int32} {A B : Prop} (a b : Nat) (f : a = b → A) (g : a ≠ b → B) (hx : x = nI a := by rfl) (hy : y = nI b := by rfl) (ha : a < 2 ^ 31 := by omega) (hb : b < 2 ^ 31 := by omega) : (x = y → A) ∧ (¬ x = y → B) := by
  subst hx hy
  rw [nI_eq ha hb]
  exact ⟨f, g⟩
/-- how many i below n satisfy p -/
def sd_cn (p : Nat → Bool) : Nat → Nat
  | 0 => 0
  | n + 1 => sd_cn p n + (if p n = true then 1 else 0)
theorem sd_cn_le (p : Nat → Bool) (n : Nat) : sd_cn p n ≤ n := by
  induction n with
  | zero => exact Nat.le_refl 0
  | succ n ih => rw [sd_cn]; split <;> omega
theorem sd_cs1 {p : Nat → Bool} {n : Nat} (h : p n = true) : sd_cn p (n + 1) = sd_cn p n + 1 := by
  rw [sd_cn, if_pos h]
theorem sd_cs0 {p : Nat → Bool} {n : Nat} (h : p n = false) : sd_cn p (n + 1) = sd_cn p n := by
  rw [sd_cn, h]; rfl
theorem sd_cn_cg {p q : Nat → Bool} {n : Nat} (h : ∀ i, i < n → p i = q i) : sd_cn p n = sd_cn q n := by
  induction n with
  | zero => rfl
  | succ n ih => rw [sd_cn, sd_cn, ih (fun i hi => h i (by omega)), h n (by omega)]
theorem sd_cn_mo {p q : Nat → Bool} {n : Nat} (h : ∀ i, i < n → p i = true → q i = true) : sd_cn p n ≤ sd_cn q n := by
  induction n with
  | zero => exact Nat.le_refl 0
  | succ n ih =>
    have h1 := ih (fun i hi => h i (by omega))
    have h2 := h n (by omega)
    rw [sd_cn, sd_cn]
    by_cases hp : p n = true
    · rw [if_pos hp, if_pos (h2 hp)]; omega
    · rw [if_neg hp]; split <;> omega
theorem sd_cn_ad (p : Nat → Bool) (a b : Nat) : sd_cn p (a + b) = sd_cn p a + sd_cn (fun i => p (a + i)) b := by
  induction b with
  | zero => rfl
  | succ b ih => rw [← Nat.add_assoc, sd_cn, ih, sd_cn]; exact Nat.add_assoc _ _ _
theorem sd_cn_0 {p : Nat → Bool} {n : Nat} (h : ∀ i, i < n → p i = false) : sd_cn p n = 0 := by
  induction n with
  | zero => rfl
  | succ n ih => rw [sd_cs0 (h n (by omega)), ih (fun i hi => h i (by omega))]
theorem sd_cn_1 {p q : Nat → Bool} {k : Nat} (hp : p k = false) (hq : q k = true) {n : Nat} (h : ∀ i, i < n → i ≠ k → q i = p i) (hk : k < n) : sd_cn q n = sd_cn p n + 1 := by
  induction n with
  | zero => omega
  | succ n ih =>
    by_cases e : k = n
    · subst e
      rw [sd_cs1 hq, sd_cs0 hp, sd_cn_cg (p := q) (q := p) (fun i hi => h i (by omega) (by omega))]
    · rw [sd_cn, sd_cn, ih (fun i hi hn => h i (by omega) hn) (by omega), h n (by omega) (by omega)]; omega
theorem sd_cn_or {p q r : Nat → Bool} {n : Nat} (h : ∀ i, i < n → (if r i = true then (1 : Nat) else 0) = (if p i = true then 1 else 0) + (if q i = true then 1 else 0)) : sd_cn r n = sd_cn p n + sd_cn q n := by
  induction n with
  | zero => rfl
  | succ n ih =>
    have h1 := ih (fun i hi => h i (by omega))
    have h2 := h n (by omega)
    rw [sd_cn, sd_cn, sd_cn, h1, h2]; omega
/-- of the keys below n that are there: how many end in the d digits e -/
def sd_C (th : Nat → Int32) (d e n : Nat) : Nat := sd_cn (fun k => decide (th k ≠ 0 ∧ k % 2 ^ d = e)) n
/-- how many keys share the ending of length d with k -/
def sd_c (th : Nat → Int32) (k d : Nat) : Nat := sd_C th d (k % 2 ^ d) 256
theorem sd_C_le (th : Nat → Int32) (d e n : Nat) : sd_C th d e n ≤ n := sd_cn_le _ n
theorem sd_c_le (th : Nat → Int32) (k d : Nat) : sd_c th k d ≤ 256 := sd_cn_le _ 256
theorem sd_c_mo (th : Nat → Int32) (k : Nat) {d d' : Nat} (h : d ≤ d') : sd_c th k d' ≤ sd_c th k d := by
  refine sd_cn_mo fun i _ hi => ?_
  have hi' := of_decide_eq_true hi
  refine decide_eq_true ⟨hi'.1, ?_⟩
  have hd : 2 ^ d ∣ 2 ^ d' := Nat.pow_dvd_pow 2 h
  rw [← Nat.mod_mod_of_dvd i hd, hi'.2, Nat.mod_mod_of_dvd k hd]
theorem sd_four : ∀ e : Fin 64, sd_cn (fun k => decide (k % 2 ^ 6 = e.val)) 256 ≤ 4 := by decide +kernel
theorem sd_c6 (th : Nat → Int32) (k : Nat) : sd_c th k 6 ≤ 4 :=
  Nat.le_trans (sd_cn_mo fun i _ hi => decide_eq_true (of_decide_eq_true hi).2) (sd_four ⟨k % 2 ^ 6, Nat.mod_lt _ (by decide)⟩)
/-- the first depth from d on, of the next n, at which at most four keys share k's ending -/
def sd_dF (th : Nat → Int32) (k : Nat) : Nat → Nat → Nat
  | 0, d => d
  | n + 1, d => if sd_c th k d ≤ 4 then d else sd_dF th k n (d + 1)
def sd_dp (th : Nat → Int32) (k : Nat) : Nat := sd_dF th k 6 0
theorem sd_dF_s (th : Nat → Int32) (k : Nat) : ∀ n d, n + d = 6 → (∀ j, j < d → 4 < sd_c th k j) → sd_dF th k n d ≤ 6 ∧ sd_c th k (sd_dF th k n d) ≤ 4 ∧ ∀ j, j < sd_dF th k n d → 4 < sd_c th k j := by
  intro n
  induction n with
  | zero =>
    intro d hd hj
    obtain rfl : d = 6 := by omega
    exact ⟨Nat.le_refl 6, sd_c6 th k, hj⟩
  | succ n ih =>
    intro d hd hj
    rw [sd_dF]
    by_cases h : sd_c th k d ≤ 4
    · rw [if_pos h]; exact ⟨by omega, h, hj⟩
    · rw [if_neg h]
      refine ih (d + 1) (by omega) fun j hj' => ?_
      by_cases e : j = d
      · subst e; omega
      · exact hj j (by omega)
theorem sd_dp_s (th : Nat → Int32) (k : Nat) : sd_dp th k ≤ 6 ∧ sd_c th k (sd_dp th k) ≤ 4 ∧ ∀ j, j < sd_dp th k → 4 < sd_c th k j :=
  sd_dF_s th k 6 0 rfl fun j hj => absurd hj (Nat.not_lt_zero j)
theorem sd_ltd (th : Nat → Int32) (k d : Nat) : 4 < sd_c th k d ↔ d < sd_dp th k := by
  obtain ⟨h1, h2, h3⟩ := sd_dp_s th k
  constructor
  · intro h
    by_cases e : d < sd_dp th k
    · exact e
    · have := sd_c_mo th k (d := sd_dp th k) (d' := d) (by omega)
      omega
  · exact h3 d
theorem sd_lt (th : Nat → Int32) (e d : Nat) (h : e < 2 ^ d) : 4 < sd_C th d e 256 ↔ d < sd_dp th e := by
  have := sd_ltd th e d
  rw [sd_c, Nat.mod_eq_of_lt h] at this
  exact this
/-- the number of buckets of depth d -/
def sd_od (th : Nat → Int32) (d : Nat) : Nat := sd_cn (fun e => decide (sd_dp th e = d)) (2 ^ d)
/-- the number of endings of length d that more than four keys share -/
def sd_M (th : Nat → Int32) (d : Nat) : Nat := sd_cn (fun e => decide (4 < sd_C th d e 256)) (2 ^ d)
theorem sd_L (th : Nat → Int32) (d : Nat) : sd_cn (fun e => decide (d ≤ sd_dp th e)) (2 ^ d) = sd_od th d + sd_M th d := by
  refine sd_cn_or fun i hi => ?_
  have h := sd_lt th i d hi
  simp only [decide_eq_true_eq, h]
  split <;> split <;> split <;> omega
theorem sd_L1 (th : Nat → Int32) (d : Nat) : sd_cn (fun e => decide (d + 1 ≤ sd_dp th e)) (2 ^ (d + 1)) = 2 * sd_M th d := by
  have e1 : sd_cn (fun e => decide (d + 1 ≤ sd_dp th e)) (2 ^ d) = sd_M th d :=
    sd_cn_cg fun i hi => decide_eq_decide.mpr (sd_lt th i d hi).symm
  have e2 : sd_cn (fun i => decide (d + 1 ≤ sd_dp th (2 ^ d + i))) (2 ^ d) = sd_M th d := by
    refine sd_cn_cg fun i hi => decide_eq_decide.mpr ?_
    have h := sd_ltd th (2 ^ d + i) d
    rw [sd_c, Nat.add_mod_left, Nat.mod_eq_of_lt hi] at h
    exact h.symm
  rw [Nat.pow_succ, Nat.mul_two, sd_cn_ad, e1, e2]
  omega
theorem sd_o1 (th : Nat → Int32) (d : Nat) : sd_od th (d + 1) + sd_M th (d + 1) = 2 * sd_M th d := by
  rw [← sd_L, sd_L1]
theorem sd_o0 (th : Nat → Int32) : sd_od th 0 + sd_M th 0 = 1 := by
  rw [← sd_L]
  exact sd_cs1 (p := fun e => decide (0 ≤ sd_dp th e)) (n := 0) (decide_eq_true (Nat.zero_le _))
theorem sd_M6 (th : Nat → Int32) : sd_M th 6 = 0 :=
  sd_cn_0 fun i hi => decide_eq_false fun h => by
    have h1 := (sd_lt th i 6 hi).mp h
    have h2 := (sd_dp_s th i).1
    omega
theorem sd_o7 (th : Nat → Int32) {d : Nat} (hd : 6 < d) : sd_od th d = 0 :=
  sd_cn_0 fun i hi => decide_eq_false fun h => by
    have h2 := (sd_dp_s th i).1
    omega
/-- the number of buckets -/
def sd_bk (th : Nat → Int32) : Nat := 1 + (sd_M th 0 + sd_M th 1 + sd_M th 2 + sd_M th 3 + sd_M th 4 + sd_M th 5)
/-- the buckets of the depths below n -/
def sd_su (th : Nat → Int32) : Nat → Nat
  | 0 => 0
  | n + 1 => sd_su th n + sd_od th n
theorem sd_sum (th : Nat → Int32) : sd_su th 9 = sd_bk th := by
  have h0 := sd_o0 th
  have h1 := sd_o1 th 0
  have h2 := sd_o1 th 1
  have h3 := sd_o1 th 2
  have h4 := sd_o1 th 3
  have h5 := sd_o1 th 4
  have h6 := sd_o1 th 5
  have h7 := sd_M6 th
  have h8 := sd_o7 th (d := 7) (by decide)
  have h9 := sd_o7 th (d := 8) (by decide)
  simp only [sd_su, sd_bk]
  simp only [Nat.zero_add, Nat.reduceAdd] at h1 h2 h3 h4 h5 h6
  omega
theorem sd_M_le (th : Nat → Int32) {d : Nat} (hd : d ≤ 5) : sd_M th d ≤ 32 :=
  Nat.le_trans (sd_cn_le _ _) (Nat.pow_le_pow_right (n := 2) (by decide) hd)
theorem sd_bk_le (th : Nat → Int32) : sd_bk th ≤ 193 := by
  have h0 := sd_M_le th (d := 0) (by decide)
  have h1 := sd_M_le th (d := 1) (by decide)
  have h2 := sd_M_le th (d := 2) (by decide)
  have h3 := sd_M_le th (d := 3) (by decide)
  have h4 := sd_M_le th (d := 4) (by decide)
  have h5 := sd_M_le th (d := 5) (by decide)
  rw [sd_bk]
  omega
theorem sd_od_le (th : Nat → Int32) {d : Nat} (hd : d ≤ 8) : sd_od th d ≤ 256 :=
  Nat.le_trans (sd_cn_le _ _) (Nat.pow_le_pow_right (n := 2) (by decide) hd)
/-- a key comes in -/
theorem sd_Cup {th : Nat → Int32} {k : Nat} (h0 : th k = 0) (hk : k < 256) (d e : Nat) : sd_C (upd th k 1) d e 256 = sd_C th d e 256 + (if e = k % 2 ^ d then 1 else 0) := by
  unfold sd_C
  by_cases he : e = k % 2 ^ d
  · rw [if_pos he]
    have hq : decide (upd th k 1 k ≠ 0 ∧ k % 2 ^ d = e) = true := by
      refine decide_eq_true ⟨?_, he.symm⟩
      rw [pk_us]; decide
    refine sd_cn_1 (k := k) (decide_eq_false fun z => z.1 h0) hq (fun i _ hn => ?_) hk
    rw [pk_un hn]
  · rw [if_neg he, Nat.add_zero]
    refine sd_cn_cg fun i _ => decide_eq_decide.mpr ?_
    by_cases hn : i = k
    · subst hn
      exact ⟨fun z => absurd z.2.symm he, fun z => absurd z.2.symm he⟩
    · rw [pk_un hn]
theorem sd_Mup {th : Nat → Int32} {k : Nat} (h0 : th k = 0) (hk : k < 256) (d : Nat) : sd_M (upd th k 1) d = sd_M th d + (if sd_c th k d = 4 then 1 else 0) := by
  have hC := fun e => sd_Cup h0 hk d e
  have hl : k % 2 ^ d < 2 ^ d := Nat.mod_lt _ (Nat.two_pow_pos d)
  by_cases h4 : sd_c th k d = 4
  · rw [if_pos h4]
    refine sd_cn_1 (k := k % 2 ^ d) (decide_eq_false fun z => ?_) (decide_eq_true ?_) (fun i _ hn => decide_eq_decide.mpr ?_) hl
    · rw [sd_c] at h4; omega
    · rw [hC, if_pos rfl]; rw [sd_c] at h4; omega
    · rw [hC, if_neg hn, Nat.add_zero]
  · rw [if_neg h4, Nat.add_zero]
    refine sd_cn_cg fun i _ => decide_eq_decide.mpr ?_
    rw [hC]
    by_cases hn : i = k % 2 ^ d
    · subst hn
      rw [if_pos rfl]; rw [sd_c] at h4; omega
    · rw [if_neg hn, Nat.add_zero]
theorem sd_bkup {th : Nat → Int32} {k : Nat} (h0 : th k = 0) (hk : k < 256) : sd_bk (upd th k 1) = sd_bk th + sd_cn (fun d => decide (sd_c th k d = 4)) 6 := by
  simp only [sd_bk, sd_cn, sd_Mup h0 hk, decide_eq_true_eq]
  omega
theorem sd_upup (th : Nat → Int32) (k : Nat) (x : Int32) : upd (upd th k x) k (th k) = th := by
  funext j
  by_cases h : j = k
  · subst h; rw [pk_us]
  · rw [pk_un h, pk_un h]
theorem sd_upid {th : Nat → Int32} {k : Nat} {x : Int32} (h : th k = x) : upd th k x = th := by
  funext j
  by_cases e : j = k
  · subst e; rw [pk_us, h]
  · rw [pk_un e]
/-- a key goes out -/
theorem sd_Cdn {th : Nat → Int32} {k : Nat} (h1 : th k = 1) (hk : k < 256) (d e : Nat) : sd_C th d e 256 = sd_C (upd th k 0) d e 256 + (if e = k % 2 ^ d then 1 else 0) := by
  have h := sd_Cup (th := upd th k 0) (k := k) pk_us hk d e
  rw [← h1, sd_upup th k 0] at h
  exact h
/-- the greatest depth below n of a bucket -/
def sd_dd (th : Nat → Int32) : Nat → Nat
  | 0 => 0
  | n + 1 => if 0 < sd_od th n then n else sd_dd th n
theorem sd_dd9 (th : Nat → Int32) : sd_dd th 9 = sd_dd th 7 := by
  have h8 := sd_o7 th (d := 7) (by decide)
  have h9 := sd_o7 th (d := 8) (by decide)
  rw [sd_dd, h9, if_neg (by decide), sd_dd, h8, if_neg (by decide)]
theorem sd_dd_le (th : Nat → Int32) (n : Nat) : sd_dd th n ≤ n := by
  induction n with
  | zero => exact Nat.le_refl 0
  | succ n ih => rw [sd_dd]; split <;> omega
/-- endings and their numbers -/
theorem sd_inj {d e d' e' : Nat} (h : 2 ^ d + e = 2 ^ d' + e') (he : e < 2 ^ d) (he' : e' < 2 ^ d') : d = d' ∧ e = e' := by
  by_cases h1 : d < d'
  · have := Nat.pow_le_pow_right (n := 2) (by decide) (show d + 1 ≤ d' from h1)
    rw [Nat.pow_succ] at this
    omega
  · by_cases h2 : d' < d
    · have := Nat.pow_le_pow_right (n := 2) (by decide) (show d' + 1 ≤ d from h2)
      rw [Nat.pow_succ] at this
      omega
    · obtain rfl : d = d' := by omega
      exact ⟨rfl, by omega⟩
theorem sd_p6 {d : Nat} (hd : d ≤ 6) : 2 ^ d ≤ 64 := Nat.pow_le_pow_right (n := 2) (by decide) hd
theorem sd_p8 {d : Nat} (hd : d ≤ 8) : 2 ^ d ≤ 256 := Nat.pow_le_pow_right (n := 2) (by decide) hd
theorem sd_ml (k d : Nat) : k % 2 ^ d < 2 ^ d := Nat.mod_lt _ (Nat.two_pow_pos d)
theorem sd_b6 {d : Nat} (k : Nat) (hd : d ≤ 6) : 2 ^ d + k % 2 ^ d < 128 := by
  have h1 := sd_p6 hd
  have h2 := sd_ml k d
  omega
theorem sd_b8 {d : Nat} (k : Nat) (hd : d ≤ 8) : 2 ^ d - 1 + k % 2 ^ d < 511 := by
  have h1 := sd_p8 hd
  have h2 := sd_ml k d
  omega
theorem sd_shF : ∀ d : Fin 9, (1 : Int32) <<< (nI d.val &&& 31) = nI (2 ^ d.val) := by decide +kernel
theorem sd_sh {d : Nat} (hd : d ≤ 8) : (1 : Int32) <<< (nI d &&& 31) = nI (2 ^ d) := sd_shF ⟨d, by omega⟩
theorem sd_enF : ∀ d : Fin 9, ∀ k : Fin 256, nI (2 ^ d.val) ||| (nI k.val &&& (nI (2 ^ d.val) - 1)) = nI (2 ^ d.val + k.val % 2 ^ d.val) := by decide +kernel
theorem sd_en {k d : Nat} (hk : k < 256) (hd : d ≤ 8) : nI (2 ^ d) ||| (nI k &&& (nI (2 ^ d) - 1)) = nI (2 ^ d + k % 2 ^ d) := sd_enF ⟨d, by omega⟩ ⟨k, hk⟩
theorem sd_eyF : ∀ d : Fin 9, ∀ k : Fin 256, (nI (2 ^ d.val) - 1) + (nI k.val &&& (nI (2 ^ d.val) - 1)) = nI (2 ^ d.val - 1 + k.val % 2 ^ d.val) := by decide +kernel
theorem sd_ey {k d : Nat} (hk : k < 256) (hd : d ≤ 8) : (nI (2 ^ d) - 1) + (nI k &&& (nI (2 ^ d) - 1)) = nI (2 ^ d - 1 + k % 2 ^ d) := sd_eyF ⟨d, by omega⟩ ⟨k, hk⟩
end
section
/-! the component's methods, each: its value's post gives the walk -/
def sd_K (th kw : Nat → Int32) : Prop := ∀ d, d ≤ 6 → ∀ e, e < 2 ^ d → kw (2 ^ d + e) = nI (sd_C th d e 256)
theorem sd_vb0 : vp_nar .boolean 0 = 0 := by decide
theorem sd_vb1 : vp_nar .boolean 1 = 1 := by decide
theorem sd_kc {th kw : Nat → Int32} (hc : sd_K th kw) (k : Nat) {d : Nat} (hd : d ≤ 6) : kw (nI (2 ^ d + k % 2 ^ d)).toNatClampNeg = nI (sd_c th k d) := by
  rw [nI_clamp (Nat.lt_trans (sd_b6 k hd) (by decide))]
  exact hc d hd _ (sd_ml k d)
theorem sd_kyX {post : Int32 → Prop} {k : Nat} (hk : k < 256) (h : post 1) : wpX_isKey post (nI k) :=
  br_f (nI_pos (by omega)) (br_f (nI_ge (b := 256) hk (by decide)) h)
theorem sd_knX {post : Int32 → Prop} {p : Int32} (hk : ¬ ∃ k, k < 256 ∧ p = nI k) (h : post 0) : wpX_isKey post p := by
  refine br_c (fun _ => h) fun h0 => br_c (fun _ => h) fun h1 => ?_
  obtain ⟨j, hj, rfl⟩ := nI_of h0
  refine absurd ⟨j, ?_, rfl⟩ hk
  by_cases z : j < 256
  · exact z
  · exact absurd (nI_le (a := 256) (b := j) (by omega) hj) h1
theorem sd_endX {post : Int32 → Prop} {k d : Nat} (hk : k < 256) (hd : d ≤ 8) (h : post (nI (2 ^ d + k % 2 ^ d))) : wpX_endingOf post (nI k) (nI d) := by
  intro x ex
  rw [sd_sh hd] at ex
  subst ex
  rw [sd_en hk hd]
  exact h
theorem sd_sizX {post : Int32 → Prop} {th va kw : Nat → Int32} (hc : sd_K th kw) (h : post (nI (sd_c th 0 0))) : wpX_size post (th, va, kw) := by
  unfold wpX_size
  dsimp only
  rw [← nI_0]
  refine sd_endX (k := 0) (d := 0) (by decide) (by decide) ⟨vp_in_nI (by decide) (by decide), ?_⟩
  rw [sd_kc hc 0 (by decide)]
  exact h
theorem sd_samX {post : Int32 → Prop} {a b d : Nat} (ha : a < 256) (hb : b < 256) (hd : d ≤ 6) (h1 : a % 2 ^ d = b % 2 ^ d → post 1) (h0 : a % 2 ^ d ≠ b % 2 ^ d → post 0) : wpX_sameEnding post (nI a) (nI b) (nI d) := by
  unfold wpX_sameEnding
  have ea := sd_b6 a hd
  have eb := sd_b6 b hd
  refine sd_endX ha (by omega) (sd_endX hb (by omega) ?_)
  exact pk_eq (2 ^ d + a % 2 ^ d) (2 ^ d + b % 2 ^ d) (fun e => h1 (Nat.add_left_cancel e)) (fun e => h0 fun z => e (by rw [z])) rfl rfl (by omega) (by omega)
theorem sd_depX_l {post : Int32 → Prop} {th va kw : Nat → Int32} (hc : sd_K th kw) {k : Nat} (hk : k < 256) : ∀ m d, m + d = 6 → post (nI (sd_dF th k m d)) → wX_bucketDepth_2 post (nI k) th va kw (m + 1) (nI d) := by
  intro m
  induction m with
  | zero =>
    intro d hd hp
    obtain rfl : d = 6 := by omega
    exact br_t (nI_le (a := 6) (b := 6) (by decide) (by decide)) hp
  | succ m ih =>
    intro d hd hp
    have hv := sd_kc hc k (d := d) (by omega)
    have hb := sd_c_le th k d
    rw [sd_dF] at hp
    refine br_f (nI_ge (b := 6) (by omega) (by decide)) (sd_endX hk (by omega) ⟨vp_in_nI (sd_b6 k (by omega)) (by decide), ?_⟩)
    refine pk_lt 4 (sd_c th k d) (fun h => nm_r (nI_1 d) (ih (d + 1) (by omega) ?_)) (fun h => ?_) rfl hv (by decide) (by omega)
    · rw [if_neg (by omega)] at hp; exact hp
    · rw [if_pos (by omega)] at hp; exact hp
theorem sd_depX {post : Int32 → Prop} {th va kw : Nat → Int32} (hc : sd_K th kw) {k : Nat} (hk : k < 256) (h : post (nI (sd_dp th k))) : wpX_bucketDepth post (th, va, kw) (nI k) :=
  ⟨7, sd_depX_l hc hk 6 0 rfl h⟩
theorem sd_odX {post : Int32 → Prop} {th va kw : Nat → Int32} (hc : sd_K th kw) {d : Nat} (hd : d ≤ 6) (h : post (nI (sd_od th d))) : wpX_ofDepth post (th, va, kw) (nI d) := by
  have h2 := sd_p6 hd
  refine br_f (nI_pos (by omega)) (br_t (nI_le (b := 6) hd (by decide)) ?_)
  refine loop_0 (fun n i s => wX_ofDepth_16 post (nI d) th va kw n s (nI i)) (fun i s => s = nI (sd_cn (fun e => decide (sd_dp th e = d)) i)) (2 ^ d) 0 rfl ?_ ?_
  · intro n s hs
    subst hs
    exact br_t (by rw [sd_sh (by omega)]; exact Int32.le_refl _) h
  · intro n i s hi hs ih
    subst hs
    have h6 := (sd_dp_s th i).1
    refine br_f (by rw [sd_sh (by omega)]; exact nI_ge hi (by omega)) ?_
    refine sd_depX hc (by omega) ?_
    refine pk_eq (sd_dp th i) d (fun e => nm_r (nI_1 _) (nm_r (nI_1 _) (ih _ ?_))) (fun e => nm_r (nI_1 _) (ih _ ?_)) rfl rfl (by omega) (by omega)
    · rw [sd_cs1 (decide_eq_true e)]
    · rw [sd_cs0 (decide_eq_false e)]
theorem sd_onX {post : Int32 → Prop} {th va kw : Nat → Int32} {p : Int32} (hp : ¬ ∃ d, d ≤ 6 ∧ p = nI d) (h : post 0) : wpX_ofDepth post (th, va, kw) p := by
  refine br_c (fun _ => h) fun h0 => br_c (fun h1 => ?_) fun _ => h
  obtain ⟨j, hj, rfl⟩ := nI_of h0
  refine absurd ⟨j, ?_, rfl⟩ hp
  exact (nI_leI (b := 6) hj (by decide)).mp h1
theorem sd_deeX {post : Int32 → Prop} {th va kw : Nat → Int32} (hc : sd_K th kw) (h : post (nI (sd_dd th 7))) : wpX_deepest post (th, va, kw) := by
  refine loop_0 (fun n i s => wX_deepest_4 post th va kw n s (nI i)) (fun i s => s = nI (sd_dd th i)) 7 0 rfl ?_ ?_
  · intro n s hs
    subst hs
    exact br_t (nI_lt (a := 6) (b := 7) (by decide) (by decide)) h
  · intro n i s hi hs ih
    subst hs
    have hb := sd_od_le th (d := i) (by omega)
    refine br_f (nI_nlt (a := 6) (b := i) (by omega) (by decide)) (sd_odX hc (by omega) ?_)
    refine pk_le (sd_od th i) 0 (fun z => nm_r (nI_1 i) (ih _ ?_)) (fun z => nm_r (nI_1 i) (ih _ ?_)) rfl rfl (by omega) (by decide)
    · rw [sd_dd, if_neg (by omega)]
    · rw [sd_dd, if_pos z]
theorem sd_cntX {post : SX → Prop} {th va kw : Nat → Int32} {k : Nat} (hk : k < 256) (ch : Int32) (h : ∀ kw', (∀ d, d ≤ 6 → ∀ e, e < 2 ^ d → kw' (2 ^ d + e) = if e = k % 2 ^ d then kw (2 ^ d + e) + ch else kw (2 ^ d + e)) → post (th, va, kw')) : wpX_countKey post (th, va, kw) (nI k) ch := by
  refine loop_0 (fun n i s => wX_countKey_2 post (nI k) ch n (nI i) th va s) (fun D s => ∀ d, d ≤ 6 → ∀ e, e < 2 ^ d → s (2 ^ d + e) = if d < D ∧ e = k % 2 ^ d then kw (2 ^ d + e) + ch else kw (2 ^ d + e)) 7 kw ?_ ?_ ?_
  · intro d _ e _
    rw [if_neg (fun z => absurd z.1 (Nat.not_lt_zero d))]
  · intro n s hs
    refine br_t (nI_lt (a := 6) (b := 7) (by decide) (by decide)) (h s fun d hd e he => ?_)
    rw [hs d hd e he]
    by_cases z : e = k % 2 ^ d
    · rw [if_pos z, if_pos ⟨by omega, z⟩]
    · rw [if_neg z, if_neg (fun y => z y.2)]
  · intro n D s hD hs ih
    have hcl := nI_clamp (n := 2 ^ D + k % 2 ^ D) (Nat.lt_trans (sd_b6 k (by omega)) (by decide))
    have hin : vp_in (nI (2 ^ D + k % 2 ^ D)) 128 := vp_in_nI (sd_b6 k (by omega)) (by decide)
    refine br_f (nI_nlt (a := 6) (b := D) (by omega) (by decide)) (sd_endX hk (by omega) ⟨hin, hin, nm_e (nm_r (nI_1 D) (ih _ ?_))⟩)
    intro d hd e he
    rw [hcl]
    by_cases z : 2 ^ d + e = 2 ^ D + k % 2 ^ D
    · obtain ⟨hdD, heD⟩ := sd_inj z he (sd_ml k D)
      subst hdD
      subst heD
      rw [pk_us, if_pos ⟨Nat.lt_succ_self d, rfl⟩, hs d hd _ he, if_neg (fun z => absurd z.1 (Nat.lt_irrefl d))]
    · rw [pk_un z, hs d hd e he]
      by_cases y : e = k % 2 ^ d
      · by_cases x : d < D
        · rw [if_pos ⟨x, y⟩, if_pos ⟨by omega, y⟩]
        · have hne : d ≠ D := fun q => z (by rw [y, q])
          rw [if_neg (fun w => x w.1), if_neg (fun w => absurd w.1 (by omega))]
      · rw [if_neg (fun w => y w.2), if_neg (fun w => y w.2)]
theorem sd_bkX_e {th kw : Nat → Int32} (hc : sd_K th kw) : 1 + sd_cn (fun j => decide (¬ kw (1 + j) ≤ (4 : Int32))) 63 = sd_bk th := by
  have hM : ∀ d, d ≤ 5 → sd_cn (fun i => decide (¬ kw (2 ^ d + i) ≤ (4 : Int32))) (2 ^ d) = sd_M th d := by
    intro d hd
    refine sd_cn_cg fun i hi => decide_eq_decide.mpr ?_
    have hb := sd_C_le th d i 256
    rw [hc d (by omega) i hi, show (4 : Int32) = nI 4 from rfl, nI_leI (by omega) (by decide)]
    omega
  have h0 := hM 0 (by decide)
  have h1 := hM 1 (by decide)
  have h2 := hM 2 (by decide)
  have h3 := hM 3 (by decide)
  have h4 := hM 4 (by decide)
  have h5 := hM 5 (by decide)
  have s5 := sd_cn_ad (fun j => decide (¬ kw (1 + j) ≤ (4 : Int32))) 31 32
  have s4 := sd_cn_ad (fun j => decide (¬ kw (1 + j) ≤ (4 : Int32))) 15 16
  have s3 := sd_cn_ad (fun j => decide (¬ kw (1 + j) ≤ (4 : Int32))) 7 8
  have s2 := sd_cn_ad (fun j => decide (¬ kw (1 + j) ≤ (4 : Int32))) 3 4
  have s1 := sd_cn_ad (fun j => decide (¬ kw (1 + j) ≤ (4 : Int32))) 1 2
  simp only [← Nat.add_assoc, Nat.reduceAdd, Nat.reducePow] at h0 h1 h2 h3 h4 h5 s1 s2 s3 s4 s5
  rw [sd_bk, s5, s4, s3, s2, s1, h0, h1, h2, h3, h4, h5]
theorem sd_bkX {post : Int32 → Prop} {th va kw : Nat → Int32} (hc : sd_K th kw) (h : post (nI (sd_bk th))) : wpX_buckets post (th, va, kw) := by
  refine loop_0 (fun n i s => wX_buckets_4 post th va kw n s (nI (1 + i))) (fun i s => s = nI (1 + sd_cn (fun j => decide (¬ kw (1 + j) ≤ (4 : Int32))) i)) 63 1 rfl ?_ ?_
  · intro n s hs
    rw [sd_bkX_e hc] at hs
    subst hs
    exact br_t (nI_le (a := 64) (b := 1 + 63) (by decide) (by decide)) h
  · intro n i s hi hs ih
    subst hs
    have hcl := nI_clamp (n := 1 + i) (by omega)
    refine br_f (nI_ge (b := 64) (by omega) (by decide)) ⟨vp_in_nI (by omega) (by decide), ?_⟩
    rw [hcl]
    refine br_c (fun z => nm_r (nI_1 _) (ih _ ?_)) (fun z => nm_r (nI_1 _) (nm_r (nI_1 _) (ih _ ?_)))
    · rw [sd_cs0 (decide_eq_false fun w => w z)]
    · rw [sd_cs1 (decide_eq_true z), Nat.add_assoc]
theorem sd_hasX1 {post : Int32 → Prop} {th va kw : Nat → Int32} {k : Nat} (hk : k < 256) (h0 : th k = 0 → post 0) (h1 : th k ≠ 0 → post 1) : wpX_has post (th, va, kw) (nI k) := by
  unfold wpX_has
  dsimp only
  refine sd_kyX hk (br_f (by decide) ⟨vp_in_nI hk (by decide), ?_⟩)
  rw [nI_clamp (by omega)]
  exact br_c h0 h1
theorem sd_hasXn {post : Int32 → Prop} {th va kw : Nat → Int32} {p : Int32} (hk : ¬ ∃ k, k < 256 ∧ p = nI k) (h : post 0) : wpX_has post (th, va, kw) p := by
  unfold wpX_has
  dsimp only
  exact sd_knX hk (br_t rfl h)
theorem sd_remXn {post : Int32 → SX → Prop} {th va kw : Nat → Int32} {p : Int32} (hk : ¬ ∃ k, k < 256 ∧ p = nI k) (h : post (-1) (th, va, kw)) : wpX_remove post (th, va, kw) p := by
  unfold wpX_remove
  dsimp only
  exact sd_hasXn hk (br_t rfl h)
theorem sd_remX0 {post : Int32 → SX → Prop} {th va kw : Nat → Int32} {k : Nat} (hk : k < 256) (h0 : th k = 0) (h : post (-1) (th, va, kw)) : wpX_remove post (th, va, kw) (nI k) := by
  unfold wpX_remove
  dsimp only
  exact sd_hasX1 hk (fun _ => br_t rfl h) (fun z => absurd h0 z)
theorem sd_remX1 {post : Int32 → SX → Prop} {th va kw : Nat → Int32} (hc : sd_K th kw) {k : Nat} (hk : k < 256) (h1 : th k = 1) (h : ∀ kw', sd_K (upd th k 0) kw' → post (nI (sd_bk (upd th k 0))) (upd th k 0, va, kw')) : wpX_remove post (th, va, kw) (nI k) := by
  unfold wpX_remove
  dsimp only
  refine sd_hasX1 hk (fun z => absurd (h1.symm.trans z) (by decide)) (fun _ => br_f (by decide) ⟨vp_in_nI hk (by decide), ?_⟩)
  rw [nI_clamp (by omega), sd_vb0]
  refine nm_e (sd_cntX hk (-1) fun kw' hw => ?_)
  dsimp only
  have hc' : sd_K (upd th k 0) kw' := by
    intro d hd e he
    have hC := sd_Cdn h1 hk d e
    rw [hw d hd e he, hc d hd e he, hC]
    by_cases z : e = k % 2 ^ d
    · rw [if_pos z, if_pos z, pk_m1]
    · rw [if_neg z, if_neg z, Nat.add_zero]
  exact sd_bkX hc' (h kw' hc')
theorem sd_putXn {post : Int32 → SX → Prop} {th va kw : Nat → Int32} {p v : Int32} (hk : ¬ ∃ k, k < 256 ∧ p = nI k) (h : post (-1) (th, va, kw)) : wpX_put post (th, va, kw) p v := by
  unfold wpX_put
  dsimp only
  exact sd_knX hk (br_t rfl h)
theorem sd_pu4X {post : Int32 → SX → Prop} {th va kw : Nat → Int32} (hc : sd_K th kw) {k : Nat} (hk : k < 256) {v : Int32} (h : post (nI (sd_bk th)) (th, upd va k v, kw)) : wX_put_43 post (nI k) v th va kw := by
  refine ⟨vp_in_nI hk (by decide), ?_⟩
  rw [nI_clamp (by omega)]
  exact nm_e (sd_bkX hc h)
theorem sd_putX1 {post : Int32 → SX → Prop} {th va kw : Nat → Int32} (hc : sd_K th kw) {k : Nat} (hk : k < 256) {v : Int32} (h1 : th k ≠ 0) (h : post (nI (sd_bk th)) (th, upd va k v, kw)) : wpX_put post (th, va, kw) (nI k) v := by
  unfold wpX_put
  dsimp only
  refine sd_kyX hk (br_f (by decide) ⟨vp_in_nI hk (by decide), ?_⟩)
  rw [nI_clamp (by omega)]
  exact br_f h1 (sd_pu4X hc hk h)
theorem sd_putX0 {post : Int32 → SX → Prop} {th va kw : Nat → Int32} (hc : sd_K th kw) {k : Nat} (hk : k < 256) {v : Int32} (h0 : th k = 0) (hf : 40 ≤ sd_c th 0 0 → post (-2) (th, va, kw)) (h : sd_c th 0 0 < 40 → ∀ kw', sd_K (upd th k 1) kw' → post (nI (sd_bk (upd th k 1))) (upd th k 1, upd va k v, kw')) : wpX_put post (th, va, kw) (nI k) v := by
  have hb := sd_c_le th 0 0
  unfold wpX_put
  dsimp only
  refine sd_kyX hk (br_f (by decide) ⟨vp_in_nI hk (by decide), ?_⟩)
  rw [nI_clamp (by omega)]
  refine br_t h0 (sd_sizX hc ?_)
  refine pk_lt (sd_c th 0 0) 40 (fun z => ⟨vp_in_nI hk (by decide), ?_⟩) hf rfl rfl (by omega) (by decide)
  rw [sd_vb1]
  refine nm_e (sd_cntX hk 1 fun kw' hw => ?_)
  dsimp only
  have hc' : sd_K (upd th k 1) kw' := by
    intro d hd e he
    have hC := sd_Cup h0 hk d e
    rw [hw d hd e he, hc d hd e he, hC]
    by_cases y : e = k % 2 ^ d
    · rw [if_pos y, if_pos y, nI_1]
    · rw [if_neg y, if_neg y, Nat.add_zero]
  exact sd_pu4X hc' hk (h z kw' hc')
theorem sd_groXn {post : Int32 → Prop} {th va kw : Nat → Int32} {p : Int32} (hk : ¬ ∃ k, k < 256 ∧ p = nI k) (h : post (-1)) : wpX_growth post (th, va, kw) p := by
  unfold wpX_growth
  dsimp only
  exact sd_knX hk (br_t rfl h)
theorem sd_groX {post : Int32 → Prop} {th va kw : Nat → Int32} (hc : sd_K th kw) {k : Nat} (hk : k < 256) (h1 : th k ≠ 0 → post 0) (h0 : th k = 0 → post (nI (sd_cn (fun d => decide (sd_c th k d = 4)) 6))) : wpX_growth post (th, va, kw) (nI k) := by
  unfold wpX_growth
  dsimp only
  refine sd_kyX hk (br_f (by decide) ⟨vp_in_nI hk (by decide), ?_⟩)
  rw [nI_clamp (by omega)]
  refine br_c (fun z => ?_) h1
  refine loop_0 (fun n i s => wX_growth_24 post (nI k) th va kw n s (nI i)) (fun i s => s = nI (sd_cn (fun d => decide (sd_c th k d = 4)) i)) 6 0 rfl ?_ ?_
  · intro n s hs
    subst hs
    exact br_t (nI_le (a := 6) (b := 6) (by decide) (by decide)) (h0 z)
  · intro n d s hd hs ih
    subst hs
    have hv := sd_kc hc k (d := d) (by omega)
    have hb := sd_c_le th k d
    refine br_f (nI_ge (b := 6) hd (by decide)) (sd_endX hk (by omega) ⟨vp_in_nI (sd_b6 k (by omega)) (by decide), ?_⟩)
    refine pk_eq (sd_c th k d) 4 (fun e => nm_r (nI_1 _) (nm_r (nI_1 _) (ih _ ?_))) (fun e => nm_r (nI_1 _) (ih _ ?_)) hv rfl (by omega) (by decide)
    · rw [sd_cs1 (decide_eq_true e)]
    · rw [sd_cs0 (decide_eq_false e)]
end
section
/-! the reference's methods, each: its value's post (for every count array) gives the walk -/
def sd_Y (th cn : Nat → Int32) : Prop := ∀ d, d ≤ 8 → ∀ e, e < 2 ^ d → cn (2 ^ d - 1 + e) = nI (sd_C th d e 256)
theorem sd_yc {th cn : Nat → Int32} (hy : sd_Y th cn) (k : Nat) {d : Nat} (hd : d ≤ 8) : cn (nI (2 ^ d - 1 + k % 2 ^ d)).toNatClampNeg = nI (sd_c th k d) := by
  rw [nI_clamp (Nat.lt_trans (sd_b8 k hd) (by decide))]
  exact hy d hd _ (sd_ml k d)
theorem sd_kyY {post : Int32 → Prop} {th va cn : Nat → Int32} {k : Nat} (hk : k < 256) (h : post 1) : wpY_key post (th, va, cn) (nI k) :=
  br_f (nI_pos (by omega)) (br_f (nI_nlt (a := 255) (by omega) (by decide)) h)
theorem sd_knY {post : Int32 → Prop} {th va cn : Nat → Int32} {p : Int32} (hk : ¬ ∃ k, k < 256 ∧ p = nI k) (h : post 0) : wpY_key post (th, va, cn) p := by
  refine br_c (fun _ => h) fun h0 => br_c (fun _ => h) fun h1 => ?_
  obtain ⟨j, hj, rfl⟩ := nI_of h0
  refine absurd ⟨j, ?_, rfl⟩ hk
  by_cases z : j < 256
  · exact z
  · exact absurd (nI_lt (a := 255) (b := j) (by omega) hj) h1
theorem sd_endY {post : Int32 → Prop} {th va cn : Nat → Int32} {k d : Nat} (hk : k < 256) (hd : d ≤ 8) (h : post (nI (2 ^ d - 1 + k % 2 ^ d))) : wpY_ending post (th, va, cn) (nI k) (nI d) := by
  unfold wpY_ending
  dsimp only
  rw [sd_sh hd, sd_ey hk hd]
  exact h
theorem sd_c33 {post : SY → Prop} {J : Int32 → (Nat → Int32) → (Nat → Int32) → (Nat → Int32) → Prop} {th va cn : Nat → Int32} {i : Nat} (hi : i < 256) (hs : ∀ d, d ≤ 8 → ∀ e, e < 2 ^ d → cn (2 ^ d - 1 + e) = nI (sd_C th d e i)) (h : ∀ cn', (∀ d, d ≤ 8 → ∀ e, e < 2 ^ d → cn' (2 ^ d - 1 + e) = nI (sd_C th d e (i + 1))) → J (nI (i + 1)) th va cn') : ∃ n, wY_count_33 post J (nI i) n 0 th va cn := by
  have hci := nI_clamp (n := i) (by omega)
  have hin : vp_in (nI i) 256 := vp_in_nI hi (by decide)
  by_cases z : th i = 0
  · refine ⟨1, br_f (by decide) ⟨hin, br_t (by rw [hci]; exact z) (nm_r (nI_1 i) (h cn fun d hd e he => ?_))⟩⟩
    rw [hs d hd e he, sd_C, sd_C, sd_cs0 (decide_eq_false fun w => w.1 z)]
  · refine loop_0 (fun n D s => wY_count_33 post J (nI i) n (nI D) th va s) (fun D s => ∀ d, d ≤ 8 → ∀ e, e < 2 ^ d → s (2 ^ d - 1 + e) = nI (if d < D then sd_C th d e (i + 1) else sd_C th d e i)) 9 cn ?_ ?_ ?_
    · intro d hd e he
      rw [if_neg (Nat.not_lt_zero d), hs d hd e he]
    · intro n s hS
      refine br_t (nI_lt (a := 8) (b := 9) (by decide) (by decide)) (nm_r (nI_1 i) (h s fun d hd e he => ?_))
      rw [hS d hd e he, if_pos (by omega)]
    · intro n D s hD hS ih
      have hcl := nI_clamp (n := 2 ^ D - 1 + i % 2 ^ D) (Nat.lt_trans (sd_b8 i (by omega)) (by decide))
      have hix : vp_in (nI (2 ^ D - 1 + i % 2 ^ D)) 511 := vp_in_nI (sd_b8 i (by omega)) (by decide)
      refine br_f (nI_nlt (a := 8) (b := D) (by omega) (by decide)) ⟨hin, br_f (by rw [hci]; exact z) (sd_endY hi (by omega) ⟨hix, hix, nm_e (nm_r (nI_1 D) (ih _ ?_))⟩)⟩
      intro d hd e he
      rw [hcl]
      by_cases w : 2 ^ d - 1 + e = 2 ^ D - 1 + i % 2 ^ D
      · have p1 := Nat.two_pow_pos d
        have p2 := Nat.two_pow_pos D
        obtain ⟨hdD, heD⟩ := sd_inj (d := d) (e := e) (d' := D) (e' := i % 2 ^ D) (by omega) he (sd_ml i D)
        subst hdD
        subst heD
        rw [pk_us, if_pos (Nat.lt_succ_self d), hS d hd _ he, if_neg (Nat.lt_irrefl d), nI_1, sd_C, sd_C, sd_cs1 (decide_eq_true ⟨z, rfl⟩)]
      · rw [pk_un w, hS d hd e he]
        by_cases x : d < D
        · rw [if_pos x, if_pos (by omega)]
        · rw [if_neg x]
          by_cases y : d = D
          · subst y
            rw [if_pos (Nat.lt_succ_self d), sd_C, sd_C, sd_cs0 (decide_eq_false fun v => w (by rw [v.2]))]
          · rw [if_neg (by omega)]
theorem sd_c24 {post : SY → Prop} {th va cn : Nat → Int32} (hz : ∀ j, j < 511 → cn j = 0) (h : ∀ cn', sd_Y th cn' → post (th, va, cn')) : ∃ n, wY_count_24 post n 0 th va cn := by
  refine loop_0 (fun n i s => wY_count_24 post n (nI i) th va s) (fun i s => ∀ d, d ≤ 8 → ∀ e, e < 2 ^ d → s (2 ^ d - 1 + e) = nI (sd_C th d e i)) 256 cn ?_ ?_ ?_
  · intro d hd e he
    have h8 := sd_p8 hd
    rw [hz (2 ^ d - 1 + e) (by omega)]
    exact nI_0.symm
  · intro n s hs
    exact br_t (nI_le (a := 256) (b := 256) (by decide) (by decide)) (h s hs)
  · intro n i s hi hs ih
    exact br_f (nI_ge (b := 256) hi (by decide)) (sd_c33 hi hs ih)
theorem sd_cntY {post : SY → Prop} {th va cn : Nat → Int32} (h : ∀ cn', sd_Y th cn' → post (th, va, cn')) : wpY_count post (th, va, cn) := by
  refine loop_0 (fun n i s => wY_count_2 post n (nI i) th va s) (fun i s => ∀ j, j < i → s j = 0) 511 cn (fun j hj => absurd hj (Nat.not_lt_zero j)) ?_ ?_
  · intro n s hs
    exact br_t (nI_le (a := 511) (b := 511) (by decide) (by decide)) (sd_c24 hs h)
  · intro n i s hi hs ih
    refine br_f (nI_ge (b := 511) hi (by decide)) ⟨vp_in_nI hi (by decide), ?_⟩
    rw [nI_clamp (by omega)]
    refine nm_e (nm_r (nI_1 i) (ih _ fun j hj => ?_))
    by_cases e : j = i
    · subst e; rw [pk_us]
    · rw [pk_un e]; exact hs j (by omega)
theorem sd_isbY {post : Int32 → Prop} {th va cn : Nat → Int32} (hy : sd_Y th cn) {k d : Nat} (hk : k < 256) (hd : d ≤ 8) (h1 : sd_dp th k = d → post 1) (h0 : sd_dp th k ≠ d → post 0) : wpY_isBucket post (th, va, cn) (nI k) (nI d) := by
  have hv := sd_yc hy k hd
  have hl := sd_ltd th k d
  have hb := sd_c_le th k d
  unfold wpY_isBucket
  dsimp only
  refine sd_endY hk hd ⟨vp_in_nI (sd_b8 k hd) (by decide), pk_lt 4 (sd_c th k d) (fun z => h0 (by omega)) (fun z => ?_) rfl hv (by decide) (by omega)⟩
  refine pk_eq d 0 (fun y => h1 (by omega)) (fun y => ?_) rfl rfl (by omega) (by decide)
  obtain ⟨d', rfl⟩ : ∃ d', d = d' + 1 := ⟨d - 1, by omega⟩
  rw [nI_pred]
  have hl' := sd_ltd th k d'
  have hb' := sd_c_le th k d'
  exact sd_endY hk (by omega) ⟨vp_in_nI (sd_b8 k (by omega)) (by decide), pk_le (sd_c th k d') 4 (fun x => h0 (by omega)) (fun x => h1 (by omega)) (sd_yc hy k (by omega)) rfl (by omega) (by decide)⟩
theorem sd_sizY {post : Int32 → Prop} {th va cn : Nat → Int32} (h : post (nI (sd_c th 0 0))) : wpY_size post (th, va, cn) := by
  refine loop_0 (fun n i s => wY_size_4 post th va cn n s (nI i)) (fun i s => s = nI (sd_C th 0 0 i)) 256 0 rfl ?_ ?_
  · intro n s hs
    subst hs
    exact br_t (nI_le (a := 256) (b := 256) (by decide) (by decide)) h
  · intro n i s hi hs ih
    subst hs
    have hci := nI_clamp (n := i) (by omega)
    refine br_f (nI_ge (b := 256) hi (by decide)) ⟨vp_in_nI hi (by decide), ?_⟩
    rw [hci]
    refine br_c (fun z => nm_r (nI_1 _) (ih _ ?_)) (fun z => nm_r (nI_1 _) (nm_r (nI_1 _) (ih _ ?_)))
    · rw [sd_C, sd_C, sd_cs0 (decide_eq_false fun w => w.1 z)]
    · rw [sd_C, sd_C, sd_cs1 (decide_eq_true ⟨z, Nat.mod_one i⟩)]
theorem sd_odY {post : Int32 → SY → Prop} {th va cn : Nat → Int32} {d : Nat} (hd : d ≤ 8) (h : ∀ cn', post (nI (sd_od th d)) (th, va, cn')) : wpY_ofDepth post (th, va, cn) (nI d) := by
  have h2 := sd_p8 hd
  unfold wpY_ofDepth
  dsimp only
  refine sd_cntY fun cn' hy => ?_
  dsimp only
  refine loop_0 (fun n i s => wY_ofDepth_8 post (nI d) th va cn' n s (nI i)) (fun i s => s = nI (sd_cn (fun e => decide (sd_dp th e = d)) i)) (2 ^ d) 0 rfl ?_ ?_
  · intro n s hs
    subst hs
    exact br_f (nI_pos (by omega)) (br_f (nI_nlt (a := 8) hd (by decide)) (br_t (by rw [sd_sh hd]; exact Int32.le_refl _) (h cn')))
  · intro n i s hi hs ih
    subst hs
    refine br_f (nI_pos (by omega)) (br_f (nI_nlt (a := 8) hd (by decide)) (br_f (by rw [sd_sh hd]; exact nI_ge hi (by omega)) ?_))
    refine sd_isbY hy (by omega) hd (fun e => ?_) (fun e => ?_)
    · refine br_f (by decide) (nm_r (nI_1 _) (nm_r (nI_1 _) (ih _ ?_)))
      rw [sd_cs1 (decide_eq_true e)]
    · refine br_t rfl (nm_r (nI_1 _) (ih _ ?_))
      rw [sd_cs0 (decide_eq_false e)]
theorem sd_onY {post : Int32 → SY → Prop} {th va cn : Nat → Int32} {p : Int32} (hp : ¬ ∃ d, d ≤ 8 ∧ p = nI d) (h : ∀ cn', post 0 (th, va, cn')) : wpY_ofDepth post (th, va, cn) p := by
  unfold wpY_ofDepth
  dsimp only
  refine sd_cntY fun cn' hy => ?_
  dsimp only
  refine ⟨1, br_c (fun _ => h cn') fun h0 => br_c (fun _ => h cn') fun h1 => ?_⟩
  obtain ⟨j, hj, rfl⟩ := nI_of h0
  refine absurd ⟨j, ?_, rfl⟩ hp
  by_cases z : j ≤ 8
  · exact z
  · exact absurd (nI_lt (a := 8) (b := j) (by omega) hj) h1
theorem sd_bkY {post : Int32 → SY → Prop} {th va cn : Nat → Int32} (h : ∀ cn', post (nI (sd_bk th)) (th, va, cn')) : wpY_buckets post (th, va, cn) := by
  refine loop_0 (fun n i (s : Int32 × (Nat → Int32)) => wY_buckets_4 post n s.1 (nI i) th va s.2) (fun i s => s.1 = nI (sd_su th i)) 9 (0, cn) rfl ?_ ?_
  · intro n s hs
    obtain ⟨s1, s2⟩ := s
    dsimp only at hs
    rw [sd_sum] at hs
    subst hs
    exact br_t (nI_lt (a := 8) (b := 9) (by decide) (by decide)) (h s2)
  · intro n i s hi hs ih
    obtain ⟨s1, s2⟩ := s
    dsimp only at hs
    subst hs
    refine br_f (nI_nlt (a := 8) (b := i) (by omega) (by decide)) (sd_odY (by omega) fun cn' => ?_)
    dsimp only
    exact nm_r (nI_add _ _) (nm_r (nI_1 i) (ih (nI (sd_su th i + sd_od th i), cn') rfl))
theorem sd_deeY {post : Int32 → SY → Prop} {th va cn : Nat → Int32} (h : ∀ cn', post (nI (sd_dd th 7)) (th, va, cn')) : wpY_deepest post (th, va, cn) := by
  refine loop_0 (fun n i (s : Int32 × (Nat → Int32)) => wY_deepest_4 post n s.1 (nI i) th va s.2) (fun i s => s.1 = nI (sd_dd th i)) 9 (0, cn) rfl ?_ ?_
  · intro n s hs
    obtain ⟨s1, s2⟩ := s
    dsimp only at hs
    rw [sd_dd9] at hs
    subst hs
    exact br_t (nI_lt (a := 8) (b := 9) (by decide) (by decide)) (h s2)
  · intro n i s hi hs ih
    obtain ⟨s1, s2⟩ := s
    dsimp only at hs
    subst hs
    have hb := sd_od_le th (d := i) (by omega)
    refine br_f (nI_nlt (a := 8) (b := i) (by omega) (by decide)) (sd_odY (by omega) fun cn' => ?_)
    dsimp only
    refine pk_le (sd_od th i) 0 (fun z => nm_r (nI_1 i) (ih (nI (sd_dd th i), cn') ?_)) (fun z => nm_r (nI_1 i) (ih (nI i, cn') ?_)) rfl rfl (by omega) (by decide)
    · dsimp only
      rw [sd_dd, if_neg (by omega)]
    · dsimp only
      rw [sd_dd, if_pos z]
theorem sd_depY_l {post : Int32 → SY → Prop} {th va cn : Nat → Int32} (hy : sd_Y th cn) {k : Nat} (hk : k < 256) (h : post (nI (sd_dp th k)) (th, va, cn)) : ∀ m d, d + m = sd_dp th k → wY_depthOf_6 post (nI k) th va cn (m + 1) (nI d) := by
  have h6 := (sd_dp_s th k).1
  intro m
  induction m with
  | zero =>
    intro d hd
    obtain rfl : d = sd_dp th k := hd
    exact br_f (nI_nlt (a := 8) (by omega) (by decide)) (sd_kyY hk (br_f (by decide) (sd_isbY hy hk (by omega) (fun _ => br_f (by decide) h) (fun e => absurd rfl e))))
  | succ m ih =>
    intro d hd
    exact br_f (nI_nlt (a := 8) (by omega) (by decide)) (sd_kyY hk (br_f (by decide) (sd_isbY hy hk (by omega) (fun e => absurd e (by omega)) (fun _ => br_t rfl (nm_r (nI_1 d) (ih (d + 1) (by omega)))))))
theorem sd_depY {post : Int32 → SY → Prop} {th va cn : Nat → Int32} {k : Nat} (hk : k < 256) (h : ∀ cn', sd_Y th cn' → post (nI (sd_dp th k)) (th, va, cn')) : wpY_depthOf post (th, va, cn) (nI k) := by
  unfold wpY_depthOf
  dsimp only
  refine sd_cntY fun cn' hy => ?_
  dsimp only
  exact ⟨_, sd_depY_l hy hk (h cn' hy) (sd_dp th k) 0 (Nat.zero_add _)⟩
theorem sd_dpnY {post : Int32 → SY → Prop} {th va cn : Nat → Int32} {p : Int32} (hk : ¬ ∃ k, k < 256 ∧ p = nI k) (h : ∀ cn', post (-1) (th, va, cn')) : wpY_depthOf post (th, va, cn) p := by
  unfold wpY_depthOf
  dsimp only
  refine sd_cntY fun cn' hy => ?_
  dsimp only
  exact ⟨1, br_f (by decide) (sd_knY hk (br_t rfl (h cn')))⟩
theorem sd_hasY1 {post : Int32 → Prop} {th va cn : Nat → Int32} {k : Nat} (hk : k < 256) (h0 : th k = 0 → post 0) (h1 : th k ≠ 0 → post 1) : wpY_has post (th, va, cn) (nI k) := by
  unfold wpY_has
  dsimp only
  refine sd_kyY hk (br_f (by decide) ⟨vp_in_nI hk (by decide), ?_⟩)
  rw [nI_clamp (by omega)]
  exact br_c h0 h1
theorem sd_hasYn {post : Int32 → Prop} {th va cn : Nat → Int32} {p : Int32} (hk : ¬ ∃ k, k < 256 ∧ p = nI k) (h : post 0) : wpY_has post (th, va, cn) p := by
  unfold wpY_has
  dsimp only
  exact sd_knY hk (br_t rfl h)
theorem sd_pu3Y {post : Int32 → SY → Prop} {th va cn : Nat → Int32} {k : Nat} (hk : k < 256) {v : Int32} (h : ∀ cn', post (nI (sd_bk (upd th k 1))) (upd th k 1, upd va k v, cn')) : wY_put_31 post (nI k) v th va cn := by
  refine ⟨vp_in_nI hk (by decide), ?_⟩
  rw [nI_clamp (by omega), sd_vb1]
  exact nm_e ⟨vp_in_nI hk (by decide), nm_e (sd_bkY h)⟩
theorem sd_putYn {post : Int32 → SY → Prop} {th va cn : Nat → Int32} {p v : Int32} (hk : ¬ ∃ k, k < 256 ∧ p = nI k) (h : post (-1) (th, va, cn)) : wpY_put post (th, va, cn) p v := by
  unfold wpY_put
  dsimp only
  exact sd_knY hk (br_t rfl h)
theorem sd_putY {post : Int32 → SY → Prop} {th va cn : Nat → Int32} {k : Nat} (hk : k < 256) {v : Int32} (hf : th k = 0 → 40 ≤ sd_c th 0 0 → post (-2) (th, va, cn)) (h : (th k = 0 → sd_c th 0 0 < 40) → ∀ cn', post (nI (sd_bk (upd th k 1))) (upd th k 1, upd va k v, cn')) : wpY_put post (th, va, cn) (nI k) v := by
  have hb := sd_c_le th 0 0
  unfold wpY_put
  dsimp only
  refine sd_kyY hk (br_f (by decide) ⟨vp_in_nI hk (by decide), ?_⟩)
  rw [nI_clamp (by omega)]
  refine br_c (fun z => sd_sizY (pk_lt (sd_c th 0 0) 40 (fun y => sd_pu3Y hk (h fun _ => y)) (hf z) rfl rfl (by omega) (by decide))) (fun z => sd_pu3Y hk (h fun y => absurd y z))
theorem sd_remYn {post : Int32 → SY → Prop} {th va cn : Nat → Int32} {p : Int32} (hk : ¬ ∃ k, k < 256 ∧ p = nI k) (h : post (-1) (th, va, cn)) : wpY_remove post (th, va, cn) p := by
  unfold wpY_remove
  dsimp only
  exact sd_hasYn hk (br_t rfl h)
theorem sd_remY {post : Int32 → SY → Prop} {th va cn : Nat → Int32} {k : Nat} (hk : k < 256) (h0 : th k = 0 → post (-1) (th, va, cn)) (h1 : th k ≠ 0 → ∀ cn', post (nI (sd_bk (upd th k 0))) (upd th k 0, va, cn')) : wpY_remove post (th, va, cn) (nI k) := by
  unfold wpY_remove
  dsimp only
  refine sd_hasY1 hk (fun z => br_t rfl (h0 z)) (fun z => br_f (by decide) ⟨vp_in_nI hk (by decide), ?_⟩)
  rw [nI_clamp (by omega), sd_vb0]
  exact nm_e (sd_bkY (h1 z))
theorem sd_groYn {post : Int32 → SY → Prop} {th va cn : Nat → Int32} {p : Int32} (hk : ¬ ∃ k, k < 256 ∧ p = nI k) (h : post (-1) (th, va, cn)) : wpY_growth post (th, va, cn) p := by
  unfold wpY_growth
  dsimp only
  exact sd_knY hk (br_t rfl h)
theorem sd_vbx {x : Int32} (h : x = 0 ∨ x = 1) : vp_nar .boolean x = x := by
  rcases h with h | h
  · subst h; exact sd_vb0
  · subst h; exact sd_vb1
theorem sd_groY {post : Int32 → SY → Prop} {th va cn : Nat → Int32} (hb : ∀ i, th i = 0 ∨ th i = 1) {k : Nat} (hk : k < 256) (h : ∀ cn', post (nI (sd_bk (upd th k 1)) - nI (sd_bk th)) (th, va, cn')) : wpY_growth post (th, va, cn) (nI k) := by
  have hin : vp_in (nI k) 256 := vp_in_nI hk (by decide)
  unfold wpY_growth
  dsimp only
  refine sd_kyY hk (br_f (by decide) (sd_bkY fun cn1 => ?_))
  dsimp only
  rw [nI_clamp (by omega), sd_vb1]
  refine ⟨hin, nm_e ⟨hin, nm_e (sd_bkY fun cn2 => ?_)⟩⟩
  dsimp only
  refine ⟨hin, ?_⟩
  rw [sd_vbx (hb k), sd_upup]
  exact nm_e (h cn2)
end
section
/-! two scans in lockstep, then what is owed -/
theorem sd_inb {th va kw : Nat → Int32} {k D : Nat} (hk : k < 256) (hD : D ≤ 6) (x2 : Int32) : ∀ m j s, j + m = 256 → ∃ r : Int32, (∀ post : Int32 → Prop, post r → wX_inBucket_21 post (nI k) x2 (nI D) th va kw (m + 1) s (nI j)) ∧ (∀ (cn : Nat → Int32) (post : Int32 → SY → Prop), post r (th, va, cn) → wY_inBucket_12 post (nI k) x2 (nI D) th va cn (m + 1) s (nI j)) := by
  intro m
  induction m with
  | zero =>
    intro j s hj
    obtain rfl : j = 256 := by omega
    have h : (256 : Int32) ≤ nI 256 := nI_le (a := 256) (b := 256) (by decide) (by decide)
    exact ⟨-1, fun _ hp => br_t h hp, fun _ _ hp => br_t h hp⟩
  | succ m ih =>
    intro j s hj
    have hj' : j < 256 := by omega
    have h : ¬ (256 : Int32) ≤ nI j := nI_ge (b := 256) hj' (by decide)
    have hin : vp_in (nI j) 256 := vp_in_nI hj' (by decide)
    have hci := nI_clamp (n := j) (by omega)
    have hD0 : ¬ nI D < 0 := nI_pos (by omega)
    have b1 := sd_b8 j (d := D) (by omega)
    have b2 := sd_b8 k (d := D) (by omega)
    by_cases z : th j = 0
    · obtain ⟨r, hX, hY⟩ := ih (j + 1) s (by omega)
      refine ⟨r, fun post hp => br_f h ⟨hin, ?_⟩, fun cn post hp => br_f h (br_f hD0 ⟨hin, ?_⟩)⟩
      · rw [hci]
        exact br_t z (nm_r (nI_1 j) (hX post hp))
      · rw [hci]
        exact br_t z (nm_r (nI_1 j) (hY cn post hp))
    · by_cases y : k % 2 ^ D = j % 2 ^ D
      · have ey : nI (2 ^ D - 1 + j % 2 ^ D) = nI (2 ^ D - 1 + k % 2 ^ D) := by rw [y]
        by_cases x : s = x2
        · refine ⟨nI j, fun post hp => br_f h ⟨hin, ?_⟩, fun cn post hp => br_f h (br_f hD0 ⟨hin, ?_⟩)⟩
          · rw [hci]
            exact br_f z (sd_samX hk hj' hD (fun _ => br_f (by decide) (br_t x hp)) (fun w => absurd y w))
          · rw [hci]
            exact br_f z (sd_endY hj' (by omega) (sd_endY hk (by omega) (br_t ey (br_t x hp))))
        · obtain ⟨r, hX, hY⟩ := ih (j + 1) (s + 1) (by omega)
          refine ⟨r, fun post hp => br_f h ⟨hin, ?_⟩, fun cn post hp => br_f h (br_f hD0 ⟨hin, ?_⟩)⟩
          · rw [hci]
            exact br_f z (sd_samX hk hj' hD (fun _ => br_f (by decide) (br_f x (nm_e (nm_r (nI_1 j) (hX post hp))))) (fun w => absurd y w))
          · rw [hci]
            exact br_f z (sd_endY hj' (by omega) (sd_endY hk (by omega) (br_t ey (br_f x (nm_e (nm_r (nI_1 j) (hY cn post hp)))))))
      · have ey : ¬ nI (2 ^ D - 1 + j % 2 ^ D) = nI (2 ^ D - 1 + k % 2 ^ D) := by
          rw [nI_eq (by omega) (by omega)]
          intro w
          exact y (Nat.add_left_cancel w).symm
        obtain ⟨r, hX, hY⟩ := ih (j + 1) s (by omega)
        refine ⟨r, fun post hp => br_f h ⟨hin, ?_⟩, fun cn post hp => br_f h (br_f hD0 ⟨hin, ?_⟩)⟩
        · rw [hci]
          exact br_f z (sd_samX hk hj' hD (fun w => absurd w y) (fun _ => br_t rfl (nm_r (nI_1 j) (hX post hp))))
        · rw [hci]
          exact br_f z (sd_endY hj' (by omega) (sd_endY hk (by omega) (br_f ey (nm_r (nI_1 j) (hY cn post hp)))))
theorem sd_nxt {th va kw cn : Nat → Int32} {p : Int32} : ∀ m j, j + m = 256 → (∀ i, j ≤ i → i < 256 → ¬ nI i < p) → ∃ r : Int32, (∀ post : Int32 → Prop, post r → wX_next_12 post th va kw (m + 1) (nI j)) ∧ (∀ post : Int32 → Prop, post r → wY_next_2 post p th va cn (m + 1) (nI j)) := by
  intro m
  induction m with
  | zero =>
    intro j hj _
    obtain rfl : j = 256 := by omega
    have h : (256 : Int32) ≤ nI 256 := nI_le (a := 256) (b := 256) (by decide) (by decide)
    exact ⟨-1, fun _ hp => br_t h hp, fun _ hp => br_t h hp⟩
  | succ m ih =>
    intro j hj hq
    have hj' : j < 256 := by omega
    have h : ¬ (256 : Int32) ≤ nI j := nI_ge (b := 256) hj' (by decide)
    have hin : vp_in (nI j) 256 := vp_in_nI hj' (by decide)
    have hci := nI_clamp (n := j) (by omega)
    have hg := hq j (Nat.le_refl j) hj'
    by_cases z : th j = 0
    · obtain ⟨r, hX, hY⟩ := ih (j + 1) (by omega) (fun i h1 h2 => hq i (by omega) h2)
      refine ⟨r, fun post hp => br_f h ⟨hin, ?_⟩, fun post hp => br_f h (br_f hg ⟨hin, ?_⟩)⟩
      · rw [hci]
        exact br_t z (nm_r (nI_1 j) (hX post hp))
      · rw [hci]
        exact br_t z (nm_r (nI_1 j) (hY post hp))
    · refine ⟨nI j, fun post hp => br_f h ⟨hin, ?_⟩, fun post hp => br_f h (br_f hg ⟨hin, ?_⟩)⟩
      · rw [hci]
        exact br_f z hp
      · rw [hci]
        exact br_f z hp
theorem sd_skp {post : Int32 → Prop} {th va cn : Nat → Int32} {p : Int32} {t n : Nat} (ht : t ≤ 256) (hp : ∀ i, i < t → nI i < p) (h : wY_next_2 post p th va cn n (nI t)) : ∀ m j, j + m = t → wY_next_2 post p th va cn (n + m) (nI j) := by
  intro m
  induction m with
  | zero =>
    intro j hj
    obtain rfl : j = t := hj
    exact h
  | succ m ih =>
    intro j hj
    exact br_f (nI_ge (b := 256) (by omega) (by decide)) (br_t (hp j (by omega)) (nm_r (nI_1 j) (ih (j + 1) (by omega))))
/-- the same keys and values on both sides; 0 or 1 for each key; the component's counts are right; the reference's array of counts is free -/
def i_Rel (_ : Nat) (u : SX) (v : SY) : Prop := ∃ th va kw cn : Nat → Int32, u = (th, va, kw) ∧ v = (th, va, cn) ∧ (∀ i, th i = 0 ∨ th i = 1) ∧ sd_K th kw
theorem sd_re {k : Nat} {th va kw cn : Nat → Int32} (hb : ∀ i, th i = 0 ∨ th i = 1) (hc : sd_K th kw) : i_Rel k (th, va, kw) (th, va, cn) := ⟨th, va, kw, cn, rfl, rfl, hb, hc⟩
theorem sd_bu {th : Nat → Int32} (hb : ∀ i, th i = 0 ∨ th i = 1) (k : Nat) {x : Int32} (hx : x = 0 ∨ x = 1) (i : Nat) : upd th k x i = 0 ∨ upd th k x i = 1 := by
  by_cases e : i = k
  · subst e; rw [pk_us]; exact hx
  · rw [pk_un e]; exact hb i
theorem sd_one {x : Int32} (h : x = 0 ∨ x = 1) (z : x ≠ 0) : x = 1 := h.resolve_left z
theorem i_up {k : Nat} {u : SX} {v : SY} (h : i_Rel k u v) : i_Rel (k + 3) u v := h
theorem i_vc0 : wpX_init (fun u => wpY_init (fun v => i_Rel 0 u v)) := by
  refine sd_re (k := 0) (fun _ => Or.inl rfl) fun d _ e _ => ?_
  rw [sd_C, sd_cn_0 (fun i _ => decide_eq_false fun w => w.1 rfl)]
  rfl
theorem i_vc_put {k : Nat} {u : SX} {v : SY} (I : i_Rel k u v) (hk : k + 3 ≤ 1536) (v1 : Int32) (v2 : Int32) : wpX_put (fun r u' => wpY_put (fun r' v' => r' = r ∧ i_Rel (k + 3) u' v') v v1 v2) u v1 v2 := by
  obtain ⟨th, va, kw, cn, rfl, rfl, hb, hc⟩ := I
  by_cases hK : ∃ q, q < 256 ∧ v1 = nI q
  · obtain ⟨q, hq, rfl⟩ := hK
    by_cases z : th q = 0
    · refine sd_putX0 hc hq z (fun hf => ?_) (fun hl kw' hc' => ?_)
      · exact sd_putY hq (fun _ _ => ⟨rfl, sd_re hb hc⟩) (fun w => absurd (w z) (by omega))
      · exact sd_putY hq (fun _ w => absurd w (by omega)) (fun _ cn' => ⟨rfl, sd_re (sd_bu hb q (Or.inr rfl)) hc'⟩)
    · refine sd_putX1 hc hq z (sd_putY hq (fun w => absurd w z) (fun _ cn' => ?_))
      rw [sd_upid (sd_one (hb q) z)]
      exact ⟨rfl, sd_re hb hc⟩
  · exact sd_putXn hK (sd_putYn hK ⟨rfl, sd_re hb hc⟩)
theorem i_vc_remove {k : Nat} {u : SX} {v : SY} (I : i_Rel k u v) (hk : k + 3 ≤ 1536) (v1 : Int32) : wpX_remove (fun r u' => wpY_remove (fun r' v' => r' = r ∧ i_Rel (k + 3) u' v') v v1) u v1 := by
  obtain ⟨th, va, kw, cn, rfl, rfl, hb, hc⟩ := I
  by_cases hK : ∃ q, q < 256 ∧ v1 = nI q
  · obtain ⟨q, hq, rfl⟩ := hK
    by_cases z : th q = 0
    · exact sd_remX0 hq z (sd_remY hq (fun _ => ⟨rfl, sd_re hb hc⟩) (fun w => absurd z w))
    · refine sd_remX1 hc hq (sd_one (hb q) z) fun kw' hc' => ?_
      exact sd_remY hq (fun w => absurd w z) (fun _ cn' => ⟨rfl, sd_re (sd_bu hb q (Or.inl rfl)) hc'⟩)
  · exact sd_remXn hK (sd_remYn hK ⟨rfl, sd_re hb hc⟩)
theorem i_vc_has {k : Nat} {u : SX} {v : SY} (I : i_Rel k u v) (hk : k + 3 ≤ 1536) (v1 : Int32) : wpX_has (fun r => wpY_has (fun r' => r' = r ∧ i_Rel (k + 3) u v) v v1) u v1 := by
  obtain ⟨th, va, kw, cn, rfl, rfl, hb, hc⟩ := I
  by_cases hK : ∃ q, q < 256 ∧ v1 = nI q
  · obtain ⟨q, hq, rfl⟩ := hK
    exact sd_hasX1 hq (fun z => sd_hasY1 hq (fun _ => ⟨rfl, sd_re hb hc⟩) (fun w => absurd z w)) (fun z => sd_hasY1 hq (fun w => absurd w z) (fun _ => ⟨rfl, sd_re hb hc⟩))
  · exact sd_hasXn hK (sd_hasYn hK ⟨rfl, sd_re hb hc⟩)
theorem i_vc_get {k : Nat} {u : SX} {v : SY} (I : i_Rel k u v) (hk : k + 3 ≤ 1536) (v1 : Int32) : wpX_get (fun r => wpY_get (fun r' => r' = r ∧ i_Rel (k + 3) u v) v v1) u v1 := by
  obtain ⟨th, va, kw, cn, rfl, rfl, hb, hc⟩ := I
  unfold wpX_get wpY_get
  dsimp only
  by_cases hK : ∃ q, q < 256 ∧ v1 = nI q
  · obtain ⟨q, hq, rfl⟩ := hK
    have hin : vp_in (nI q) 256 := vp_in_nI hq (by decide)
    refine sd_hasX1 hq (fun z => br_t rfl (sd_hasY1 hq (fun _ => br_t rfl ⟨rfl, sd_re hb hc⟩) (fun w => absurd z w))) (fun z => br_f (by decide) ⟨hin, sd_hasY1 hq (fun w => absurd w z) (fun _ => br_f (by decide) ⟨hin, rfl, sd_re hb hc⟩)⟩)
  · exact sd_hasXn hK (br_t rfl (sd_hasYn hK (br_t rfl ⟨rfl, sd_re hb hc⟩)))
theorem i_vc_size {k : Nat} {u : SX} {v : SY} (I : i_Rel k u v) (hk : k + 3 ≤ 1536) : wpX_size (fun r => wpY_size (fun r' => r' = r ∧ i_Rel (k + 3) u v) v) u := by
  obtain ⟨th, va, kw, cn, rfl, rfl, hb, hc⟩ := I
  exact sd_sizX hc (sd_sizY ⟨rfl, sd_re hb hc⟩)
theorem i_vc_buckets {k : Nat} {u : SX} {v : SY} (I : i_Rel k u v) (hk : k + 3 ≤ 1536) : wpX_buckets (fun r => wpY_buckets (fun r' v' => r' = r ∧ i_Rel (k + 3) u v') v) u := by
  obtain ⟨th, va, kw, cn, rfl, rfl, hb, hc⟩ := I
  exact sd_bkX hc (sd_bkY fun cn' => ⟨rfl, sd_re hb hc⟩)
theorem i_vc_deepest {k : Nat} {u : SX} {v : SY} (I : i_Rel k u v) (hk : k + 3 ≤ 1536) : wpX_deepest (fun r => wpY_deepest (fun r' v' => r' = r ∧ i_Rel (k + 3) u v') v) u := by
  obtain ⟨th, va, kw, cn, rfl, rfl, hb, hc⟩ := I
  exact sd_deeX hc (sd_deeY fun cn' => ⟨rfl, sd_re hb hc⟩)
theorem i_vc_depthOf {k : Nat} {u : SX} {v : SY} (I : i_Rel k u v) (hk : k + 3 ≤ 1536) (v1 : Int32) : wpX_depthOf (fun r => wpY_depthOf (fun r' v' => r' = r ∧ i_Rel (k + 3) u v') v v1) u v1 := by
  obtain ⟨th, va, kw, cn, rfl, rfl, hb, hc⟩ := I
  unfold wpX_depthOf
  dsimp only
  by_cases hK : ∃ q, q < 256 ∧ v1 = nI q
  · obtain ⟨q, hq, rfl⟩ := hK
    exact sd_kyX hq (br_f (by decide) (sd_depX hc hq (sd_depY hq fun cn' _ => ⟨rfl, sd_re hb hc⟩)))
  · exact sd_knX hK (br_t rfl (sd_dpnY hK fun cn' => ⟨rfl, sd_re hb hc⟩))
theorem i_vc_load {k : Nat} {u : SX} {v : SY} (I : i_Rel k u v) (hk : k + 3 ≤ 1536) (v1 : Int32) : wpX_load (fun r => wpY_load (fun r' v' => r' = r ∧ i_Rel (k + 3) u v') v v1) u v1 := by
  obtain ⟨th, va, kw, cn, rfl, rfl, hb, hc⟩ := I
  unfold wpX_load wpY_load
  dsimp only
  by_cases hK : ∃ q, q < 256 ∧ v1 = nI q
  · obtain ⟨q, hq, rfl⟩ := hK
    have h6 := (sd_dp_s th q).1
    refine sd_kyX hq (br_f (by decide) (sd_depX hc hq (sd_endX hq (by omega) ⟨vp_in_nI (sd_b6 q h6) (by decide), sd_depY hq fun cn' hy => ?_⟩)))
    dsimp only
    refine br_t (nI_pos' (by omega)) (sd_endY hq (by omega) ⟨vp_in_nI (sd_b8 q (by omega)) (by decide), ?_, sd_re hb hc⟩)
    rw [sd_yc hy q (by omega), sd_kc hc q h6]
  · refine sd_knX hK (br_t rfl (sd_dpnY hK fun cn' => ?_))
    exact br_f (by decide) ⟨rfl, sd_re hb hc⟩
theorem i_vc_inBucket {k : Nat} {u : SX} {v : SY} (I : i_Rel k u v) (hk : k + 3 ≤ 1536) (v1 : Int32) (v2 : Int32) : wpX_inBucket (fun r => wpY_inBucket (fun r' v' => r' = r ∧ i_Rel (k + 3) u v') v v1 v2) u v1 v2 := by
  obtain ⟨th, va, kw, cn, rfl, rfl, hb, hc⟩ := I
  unfold wpX_inBucket wpY_inBucket
  dsimp only
  by_cases hK : ∃ q, q < 256 ∧ v1 = nI q
  · obtain ⟨q, hq, rfl⟩ := hK
    have h6 := (sd_dp_s th q).1
    refine sd_kyX hq (br_f (by decide) (sd_depX hc hq ⟨257, ?_⟩))
    obtain ⟨r, hX, hY⟩ := sd_inb (th := th) (va := va) (kw := kw) hq h6 v2 256 0 0 rfl
    exact hX _ (sd_depY hq fun cn' _ => ⟨257, hY cn' _ ⟨rfl, sd_re hb hc⟩⟩)
  · refine sd_knX hK (br_t rfl (sd_dpnY hK fun cn' => ?_))
    exact ⟨1, br_f (by decide) (br_t (by decide) ⟨rfl, sd_re hb hc⟩)⟩
theorem i_vc_together {k : Nat} {u : SX} {v : SY} (I : i_Rel k u v) (hk : k + 3 ≤ 1536) (v1 : Int32) (v2 : Int32) : wpX_together (fun r => wpY_together (fun r' v' => r' = r ∧ i_Rel (k + 3) u v') v v1 v2) u v1 v2 := by
  obtain ⟨th, va, kw, cn, rfl, rfl, hb, hc⟩ := I
  unfold wpX_together wpY_together
  dsimp only
  by_cases hK : ∃ q, q < 256 ∧ v1 = nI q
  · obtain ⟨q, hq, rfl⟩ := hK
    have h6 := (sd_dp_s th q).1
    have hD0 : ¬ nI (sd_dp th q) < 0 := nI_pos (by omega)
    refine sd_kyX hq (br_f (by decide) ?_)
    by_cases hL : ∃ p, p < 256 ∧ v2 = nI p
    · obtain ⟨p, hp, rfl⟩ := hL
      have b1 := sd_b8 q (d := sd_dp th q) (by omega)
      have b2 := sd_b8 p (d := sd_dp th q) (by omega)
      refine sd_kyX hp (br_f (by decide) (sd_depX hc hq (sd_samX hq hp h6 (fun e => ⟨rfl, ?_⟩) (fun e => ⟨rfl, ?_⟩))))
      · refine sd_depY hq fun cn' _ => ?_
        refine br_f hD0 (sd_kyY hp (br_f (by decide) (sd_endY hq (by omega) (sd_endY hp (by omega) ?_))))
        exact br_t (by rw [e]) ⟨rfl, sd_re hb hc⟩
      · refine sd_depY hq fun cn' _ => ?_
        refine br_f hD0 (sd_kyY hp (br_f (by decide) (sd_endY hq (by omega) (sd_endY hp (by omega) ?_))))
        refine br_f ?_ ⟨rfl, sd_re hb hc⟩
        rw [nI_eq (by omega) (by omega)]
        exact fun w => e (Nat.add_left_cancel w)
    · refine sd_knX hL (br_t rfl (sd_depY hq fun cn' _ => ?_))
      exact br_f hD0 (sd_knY hL (br_t rfl ⟨rfl, sd_re hb hc⟩))
  · refine sd_knX hK (br_t rfl (sd_dpnY hK fun cn' => ?_))
    exact br_t (by decide) ⟨rfl, sd_re hb hc⟩
theorem i_vc_ofDepth {k : Nat} {u : SX} {v : SY} (I : i_Rel k u v) (hk : k + 3 ≤ 1536) (v1 : Int32) : wpX_ofDepth (fun r => wpY_ofDepth (fun r' v' => r' = r ∧ i_Rel (k + 3) u v') v v1) u v1 := by
  obtain ⟨th, va, kw, cn, rfl, rfl, hb, hc⟩ := I
  by_cases hK : ∃ d, d ≤ 6 ∧ v1 = nI d
  · obtain ⟨d, hd, rfl⟩ := hK
    exact sd_odX hc hd (sd_odY (by omega) fun cn' => ⟨rfl, sd_re hb hc⟩)
  · refine sd_onX hK ?_
    by_cases hL : ∃ d, d ≤ 8 ∧ v1 = nI d
    · obtain ⟨d, hd, rfl⟩ := hL
      have h7 : 6 < d := by
        by_cases z : 6 < d
        · exact z
        · exact absurd ⟨d, by omega, rfl⟩ hK
      refine sd_odY hd fun cn' => ⟨?_, sd_re hb hc⟩
      rw [sd_o7 th h7, nI_0]
    · exact sd_onY hL fun cn' => ⟨rfl, sd_re hb hc⟩
theorem i_vc_next {k : Nat} {u : SX} {v : SY} (I : i_Rel k u v) (hk : k + 3 ≤ 1536) (v1 : Int32) : wpX_next (fun r => wpY_next (fun r' => r' = r ∧ i_Rel (k + 3) u v) v v1) u v1 := by
  obtain ⟨th, va, kw, cn, rfl, rfl, hb, hc⟩ := I
  by_cases h0 : 0 ≤ v1
  · refine br_t h0 ?_
    obtain ⟨q, hq, rfl⟩ := nI_of (Int32.not_lt.mpr h0)
    by_cases z : q ≤ 256
    · obtain ⟨r, hX, hY⟩ := sd_nxt (th := th) (va := va) (kw := kw) (cn := cn) (p := nI q) (256 - q) q (by omega) (fun i h1 h2 => nI_nlt h1 (by omega))
      exact ⟨_, hX _ ⟨_, sd_skp z (fun i hi => nI_lt hi hq) (hY _ ⟨rfl, sd_re hb hc⟩) q 0 (Nat.zero_add q)⟩⟩
    · refine ⟨1, br_t (nI_le (a := 256) (b := q) (by omega) hq) ?_⟩
      refine ⟨_, sd_skp (t := 256) (n := 1) (Nat.le_refl 256) (fun i hi => nI_lt (by omega) hq) ?_ 256 0 rfl⟩
      exact br_t (nI_le (a := 256) (b := 256) (by decide) (by decide)) ⟨rfl, sd_re hb hc⟩
  · refine br_f h0 ?_
    have hn : v1 < 0 := Int32.not_le.mp h0
    obtain ⟨r, hX, hY⟩ := sd_nxt (th := th) (va := va) (kw := kw) (cn := cn) (p := v1) 256 0 rfl (fun i _ h2 w => nI_pos (n := i) (by omega) (Int32.lt_trans w hn))
    exact ⟨257, hX _ ⟨257, hY _ ⟨rfl, sd_re hb hc⟩⟩⟩
theorem i_vc_growth {k : Nat} {u : SX} {v : SY} (I : i_Rel k u v) (hk : k + 3 ≤ 1536) (v1 : Int32) : wpX_growth (fun r => wpY_growth (fun r' v' => r' = r ∧ i_Rel (k + 3) u v') v v1) u v1 := by
  obtain ⟨th, va, kw, cn, rfl, rfl, hb, hc⟩ := I
  by_cases hK : ∃ q, q < 256 ∧ v1 = nI q
  · obtain ⟨q, hq, rfl⟩ := hK
    refine sd_groX hc hq (fun z => sd_groY hb hq fun cn' => ⟨?_, sd_re hb hc⟩) (fun z => sd_groY hb hq fun cn' => ⟨?_, sd_re hb hc⟩)
    · rw [sd_upid (sd_one (hb q) z), pk_sub (Nat.le_refl _), Nat.sub_self, nI_0]
    · rw [sd_bkup z hq, pk_sub (Nat.le_add_right _ _), Nat.add_sub_cancel_left]
  · exact sd_groXn hK (sd_groYn hK ⟨rfl, sd_re hb hc⟩)
end
