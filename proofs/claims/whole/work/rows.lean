section
/-! the pure picture: how many keys have an ending, the depth of a key's bucket, the number of buckets -/
theorem pk_us {f : Nat → Int32} {k : Nat} {x : Int32} : upd f k x k = x := if_pos rfl
theorem pk_un {f : Nat → Int32} {k j : Nat} {x : Int32} (h : j ≠ k) : upd f k x j = f j := if_neg h
theorem pk_sub {a b : Nat} (h : b ≤ a) : nI a - nI b = nI (a - b) := by
  obtain ⟨c, rfl⟩ : ∃ c, a = c + b := ⟨a - b, by omega⟩
  rw [← nI_add, Int32.add_sub_cancel, Nat.add_sub_cancel]
theorem pk_m1 (n : Nat) : nI (n + 1) + (-1) = nI n := by
  rw [← nI_1, Int32.add_assoc, show (1 : Int32) + (-1) = 0 from rfl, Int32.add_zero]
theorem pk_le {x y : Int32} {A B : Prop} (a b : Nat) (f : a ≤ b → A) (g : b < a → B) (hx : x = nI a := by rfl) (hy : y = nI b := by rfl) (ha : a < 2 ^ 31 := by omega) (hb : b < 2 ^ 31 := by omega) : (x ≤ y → A) ∧ (¬ x ≤ y → B) := by
  subst hx hy
  rw [nI_leI ha hb]
  exact ⟨f, fun z => g (by omega)⟩
theorem pk_lt {x y : Int32} {A B : Prop} (a b : Nat) (f : a < b → A) (g : b ≤ a → B) (hx : x = nI a := by rfl) (hy : y = nI b := by rfl) (ha : a < 2 ^ 31 := by omega) (hb : b < 2 ^ 31 := by omega) : (x < y → A) ∧ (¬ x < y → B) := by
  subst hx hy
  rw [nI_ltI ha hb]
  exact ⟨f, fun z => g (by omega)⟩
theorem pk_eq {x y : Int32} {A B : Prop} (a b : Nat) (f : a = b → A) (g : a ≠ b → B) (hx : x = nI a := by rfl) (hy : y = nI b := by rfl) (ha : a < 2 ^ 31 := by omega) (hb : b < 2 ^ 31 := by omega) : (x = y → A) ∧ (¬ x = y → B) := by
  subst hx hy
  rw [nI_eq ha hb]
  exact ⟨f, g⟩
/-- how many i below n satisfy p -/
def sd_cn (p : Nat → Bool) : Nat → Nat
  | 0 => 0
  | n + 1 => sd_cn p n + (if p n = true then 1 else 0)
theorem sd_cn_le (p : Nat → Bool) (n : Nat) : sd_cn p n ≤ n := by
  induction n with
  | zero => exact Nat.le_refl 0
  | succ n ih => rw [sd_cn]; split <;> omega
theorem sd_cs1 {p : Nat → Bool} {n : Nat} (h : p n = true) : sd_cn p (n + 1) = sd_cn p n + 1 := by
  rw [sd_cn, if_pos h]
theorem sd_cs0 {p : Nat → Bool} {n : Nat} (h : p n = false) : sd_cn p (n + 1) = sd_cn p n := by
  rw [sd_cn, h]; rfl
theorem sd_cn_cg {p q : Nat → Bool} {n : Nat} (h : ∀ i, i < n → p i = q i) : sd_cn p n = sd_cn q n := by
  induction n with
  | zero => rfl
  | succ n ih => rw [sd_cn, sd_cn, ih (fun i hi => h i (by omega)), h n (by omega)]
theorem sd_cn_mo {p q : Nat → Bool} {n : Nat} (h : ∀ i, i < n → p i = true → q i = true) : sd_cn p n ≤ sd_cn q n := by
  induction n with
  | zero => exact Nat.le_refl 0
  | succ n ih =>
    have h1 := ih (fun i hi => h i (by omega))
    have h2 := h n (by omega)
    rw [sd_cn, sd_cn]
    by_cases hp : p n = true
    · rw [if_pos hp, if_pos (h2 hp)]; omega
    · rw [if_neg hp]; split <;> omega
theorem sd_cn_ad (p : Nat → Bool) (a b : Nat) : sd_cn p (a + b) = sd_cn p a + sd_cn (fun i => p (a + i)) b := by
  induction b with
  | zero => rfl
  | succ b ih => rw [← Nat.add_assoc, sd_cn, ih, sd_cn]; exact Nat.add_assoc _ _ _
theorem sd_cn_0 {p : Nat → Bool} {n : Nat} (h : ∀ i, i < n → p i = false) : sd_cn p n = 0 := by
  induction n with
  | zero => rfl
  | succ n ih => rw [sd_cs0 (h n (by omega)), ih (fun i hi => h i (by omega))]
theorem sd_cn_1 {p q : Nat → Bool} {k : Nat} (hp : p k = false) (hq : q k = true) {n : Nat} (h : ∀ i, i < n → i ≠ k → q i = p i) (hk : k < n) : sd_cn q n = sd_cn p n + 1 := by
  induction n with
  | zero => omega
  | succ n ih =>
    by_cases e : k = n
    · subst e
      rw [sd_cs1 hq, sd_cs0 hp, sd_cn_cg (p := q) (q := p) (fun i hi => h i (by omega) (by omega))]
    · rw [sd_cn, sd_cn, ih (fun i hi hn => h i (by omega) hn) (by omega), h n (by omega) (by omega)]; omega
theorem sd_cn_or {p q r : Nat → Bool} {n : Nat} (h : ∀ i, i < n → (if r i = true then (1 : Nat) else 0) = (if p i = true then 1 else 0) + (if q i = true then 1 else 0)) : sd_cn r n = sd_cn p n + sd_cn q n := by
  induction n with
  | zero => rfl
  | succ n ih =>
    have h1 := ih (fun i hi => h i (by omega))
    have h2 := h n (by omega)
    rw [sd_cn, sd_cn, sd_cn, h1, h2]; omega
/-- of the keys below n that are there: how many end in the d digits e -/
def sd_C (th : Nat → Int32) (d e n : Nat) : Nat := sd_cn (fun k => decide (th k ≠ 0 ∧ k % 2 ^ d = e)) n
/-- how many keys share the ending of length d with k -/
def sd_c (th : Nat → Int32) (k d : Nat) : Nat := sd_C th d (k % 2 ^ d) 256
theorem sd_C_le (th : Nat → Int32) (d e n : Nat) : sd_C th d e n ≤ n := sd_cn_le _ n
theorem sd_c_le (th : Nat → Int32) (k d : Nat) : sd_c th k d ≤ 256 := sd_cn_le _ 256
theorem sd_c_mo (th : Nat → Int32) (k : Nat) {d d' : Nat} (h : d ≤ d') : sd_c th k d' ≤ sd_c th k d := by
  refine sd_cn_mo fun i _ hi => ?_
  have hi' := of_decide_eq_true hi
  refine decide_eq_true ⟨hi'.1, ?_⟩
  have hd : 2 ^ d ∣ 2 ^ d' := Nat.pow_dvd_pow 2 h
  rw [← Nat.mod_mod_of_dvd i hd, hi'.2, Nat.mod_mod_of_dvd k hd]
theorem sd_four : ∀ e : Fin 64, sd_cn (fun k => decide (k % 2 ^ 6 = e.val)) 256 ≤ 4 := by decide +kernel
theorem sd_c6 (th : Nat → Int32) (k : Nat) : sd_c th k 6 ≤ 4 :=
  Nat.le_trans (sd_cn_mo fun i _ hi => decide_eq_true (of_decide_eq_true hi).2) (sd_four ⟨k % 2 ^ 6, Nat.mod_lt _ (by decide)⟩)
/-- the first depth from d on, of the next n, at which at most four keys share k's ending -/
def sd_dF (th : Nat → Int32) (k : Nat) : Nat → Nat → Nat
  | 0, d => d
  | n + 1, d => if sd_c th k d ≤ 4 then d else sd_dF th k n (d + 1)
def sd_dp (th : Nat → Int32) (k : Nat) : Nat := sd_dF th k 6 0
theorem sd_dF_s (th : Nat → Int32) (k : Nat) : ∀ n d, n + d = 6 → (∀ j, j < d → 4 < sd_c th k j) → sd_dF th k n d ≤ 6 ∧ sd_c th k (sd_dF th k n d) ≤ 4 ∧ ∀ j, j < sd_dF th k n d → 4 < sd_c th k j := by
  intro n
  induction n with
  | zero =>
    intro d hd hj
    obtain rfl : d = 6 := by omega
    exact ⟨Nat.le_refl 6, sd_c6 th k, hj⟩
  | succ n ih =>
    intro d hd hj
    rw [sd_dF]
    by_cases h : sd_c th k d ≤ 4
    · rw [if_pos h]; exact ⟨by omega, h, hj⟩
    · rw [if_neg h]
      refine ih (d + 1) (by omega) fun j hj' => ?_
      by_cases e : j = d
      · subst e; omega
      · exact hj j (by omega)
theorem sd_dp_s (th : Nat → Int32) (k : Nat) : sd_dp th k ≤ 6 ∧ sd_c th k (sd_dp th k) ≤ 4 ∧ ∀ j, j < sd_dp th k → 4 < sd_c th k j :=
  sd_dF_s th k 6 0 rfl fun j hj => absurd hj (Nat.not_lt_zero j)
theorem sd_ltd (th : Nat → Int32) (k d : Nat) : 4 < sd_c th k d ↔ d < sd_dp th k := by
  obtain ⟨h1, h2, h3⟩ := sd_dp_s th k
  constructor
  · intro h
    by_cases e : d < sd_dp th k
    · exact e
    · have := sd_c_mo th k (d := sd_dp th k) (d' := d) (by omega)
      omega
  · exact h3 d
theorem sd_lt (th : Nat → Int32) (e d : Nat) (h : e < 2 ^ d) : 4 < sd_C th d e 256 ↔ d < sd_dp th e := by
  have := sd_ltd th e d
  rw [sd_c, Nat.mod_eq_of_lt h] at this
  exact this
/-- the number of buckets of depth d -/
def sd_od (th : Nat → Int32) (d : Nat) : Nat := sd_cn (fun e => decide (sd_dp th e = d)) (2 ^ d)
/-- the number of endings of length d that more than four keys share -/
def sd_M (th : Nat → Int32) (d : Nat) : Nat := sd_cn (fun e => decide (4 < sd_C th d e 256)) (2 ^ d)
theorem sd_L (th : Nat → Int32) (d : Nat) : sd_cn (fun e => decide (d ≤ sd_dp th e)) (2 ^ d) = sd_od th d + sd_M th d := by
  refine sd_cn_or fun i hi => ?_
  have h := sd_lt th i d hi
  simp only [decide_eq_true_eq, h]
  split <;> split <;> split <;> omega
theorem sd_L1 (th : Nat → Int32) (d : Nat) : sd_cn (fun e => decide (d + 1 ≤ sd_dp th e)) (2 ^ (d + 1)) = 2 * sd_M th d := by
  have e1 : sd_cn (fun e => decide (d + 1 ≤ sd_dp th e)) (2 ^ d) = sd_M th d :=
    sd_cn_cg fun i hi => decide_eq_decide.mpr (sd_lt th i d hi).symm
  have e2 : sd_cn (fun i => decide (d + 1 ≤ sd_dp th (2 ^ d + i))) (2 ^ d) = sd_M th d := by
    refine sd_cn_cg fun i hi => decide_eq_decide.mpr ?_
    have h := sd_ltd th (2 ^ d + i) d
    rw [sd_c, Nat.add_mod_left, Nat.mod_eq_of_lt hi] at h
    exact h.symm
  rw [Nat.pow_succ, Nat.mul_two, sd_cn_ad, e1, e2]
  omega
theorem sd_o1 (th : Nat → Int32) (d : Nat) : sd_od th (d + 1) + sd_M th (d + 1) = 2 * sd_M th d := by
  rw [← sd_L, sd_L1]
theorem sd_o0 (th : Nat → Int32) : sd_od th 0 + sd_M th 0 = 1 := by
  rw [← sd_L]
  exact sd_cs1 (p := fun e => decide (0 ≤ sd_dp th e)) (n := 0) (decide_eq_true (Nat.zero_le _))
theorem sd_M6 (th : Nat → Int32) : sd_M th 6 = 0 :=
  sd_cn_0 fun i hi => decide_eq_false fun h => by
    have h1 := (sd_lt th i 6 hi).mp h
    have h2 := (sd_dp_s th i).1
    omega
theorem sd_o7 (th : Nat → Int32) {d : Nat} (hd : 6 < d) : sd_od th d = 0 :=
  sd_cn_0 fun i hi => decide_eq_false fun h => by
    have h2 := (sd_dp_s th i).1
    omega
/-- the number of buckets -/
def sd_bk (th : Nat → Int32) : Nat := 1 + (sd_M th 0 + sd_M th 1 + sd_M th 2 + sd_M th 3 + sd_M th 4 + sd_M th 5)
/-- the buckets of the depths below n -/
def sd_su (th : Nat → Int32) : Nat → Nat
  | 0 => 0
  | n + 1 => sd_su th n + sd_od th n
theorem sd_sum (th : Nat → Int32) : sd_su th 9 = sd_bk th := by
  have h0 := sd_o0 th
  have h1 := sd_o1 th 0
  have h2 := sd_o1 th 1
  have h3 := sd_o1 th 2
  have h4 := sd_o1 th 3
  have h5 := sd_o1 th 4
  have h6 := sd_o1 th 5
  have h7 := sd_M6 th
  have h8 := sd_o7 th (d := 7) (by decide)
  have h9 := sd_o7 th (d := 8) (by decide)
  simp only [sd_su, sd_bk]
  simp only [Nat.zero_add, Nat.reduceAdd] at h1 h2 h3 h4 h5 h6
  omega
theorem sd_M_le (th : Nat → Int32) {d : Nat} (hd : d ≤ 5) : sd_M th d ≤ 32 :=
  Nat.le_trans (sd_cn_le _ _) (Nat.pow_le_pow_right (n := 2) (by decide) hd)
theorem sd_bk_le (th : Nat → Int32) : sd_bk th ≤ 193 := by
  have h0 := sd_M_le th (d := 0) (by decide)
  have h1 := sd_M_le th (d := 1) (by decide)
  have h2 := sd_M_le th (d := 2) (by decide)
  have h3 := sd_M_le th (d := 3) (by decide)
  have h4 := sd_M_le th (d := 4) (by decide)
  have h5 := sd_M_le th (d := 5) (by decide)
  rw [sd_bk]
  omega
theorem sd_od_le (th : Nat → Int32) {d : Nat} (hd : d ≤ 8) : sd_od th d ≤ 256 :=
  Nat.le_trans (sd_cn_le _ _) (Nat.pow_le_pow_right (n := 2) (by decide) hd)
/-- a key comes in -/
theorem sd_Cup {th : Nat → Int32} {k : Nat} (h0 : th k = 0) (hk : k < 256) (d e : Nat) : sd_C (upd th k 1) d e 256 = sd_C th d e 256 + (if e = k % 2 ^ d then 1 else 0) := by
  unfold sd_C
  by_cases he : e = k % 2 ^ d
  · rw [if_pos he]
    have hq : decide (upd th k 1 k ≠ 0 ∧ k % 2 ^ d = e) = true := by
      refine decide_eq_true ⟨?_, he.symm⟩
      rw [pk_us]; decide
    refine sd_cn_1 (k := k) (decide_eq_false fun z => z.1 h0) hq (fun i _ hn => ?_) hk
    rw [pk_un hn]
  · rw [if_neg he, Nat.add_zero]
    refine sd_cn_cg fun i _ => decide_eq_decide.mpr ?_
    by_cases hn : i = k
    · subst hn
      exact ⟨fun z => absurd z.2.symm he, fun z => absurd z.2.symm he⟩
    · rw [pk_un hn]
theorem sd_Mup {th : Nat → Int32} {k : Nat} (h0 : th k = 0) (hk : k < 256) (d : Nat) : sd_M (upd th k 1) d = sd_M th d + (if sd_c th k d = 4 then 1 else 0) := by
  have hC := fun e => sd_Cup h0 hk d e
  have hl : k % 2 ^ d < 2 ^ d := Nat.mod_lt _ (Nat.two_pow_pos d)
  by_cases h4 : sd_c th k d = 4
  · rw [if_pos h4]
    refine sd_cn_1 (k := k % 2 ^ d) (decide_eq_false fun z => ?_) (decide_eq_true ?_) (fun i _ hn => decide_eq_decide.mpr ?_) hl
    · rw [sd_c] at h4; omega
    · rw [hC, if_pos rfl]; rw [sd_c] at h4; omega
    · rw [hC, if_neg hn, Nat.add_zero]
  · rw [if_neg h4, Nat.add_zero]
    refine sd_cn_cg fun i _ => decide_eq_decide.mpr ?_
    rw [hC]
    by_cases hn : i = k % 2 ^ d
    · subst hn
      rw [if_pos rfl]; rw [sd_c] at h4; omega
    · rw [if_neg hn, Nat.add_zero]
theorem sd_bkup {th : Nat → Int32} {k : Nat} (h0 : th k = 0) (hk : k < 256) : sd_bk (upd th k 1) = sd_bk th + sd_cn (fun d => decide (sd_c th k d = 4)) 6 := by
  simp only [sd_bk, sd_cn, sd_Mup h0 hk, decide_eq_true_eq]
  omega
theorem sd_upup (th : Nat → Int32) (k : Nat) (x : Int32) : upd (upd th k x) k (th k) = th := by
  funext j
  by_cases h : j = k
  · subst h; rw [pk_us]
  · rw [pk_un h, pk_un h]
theorem sd_upid {th : Nat → Int32} {k : Nat} {x : Int32} (h : th k = x) : upd th k x = th := by
  funext j
  by_cases e : j = k
  · subst e; rw [pk_us, h]
  · rw [pk_un e]
/-- a key goes out -/
theorem sd_Cdn {th : Nat → Int32} {k : Nat} (h1 : th k = 1) (hk : k < 256) (d e : Nat) : sd_C th d e 256 = sd_C (upd th k 0) d e 256 + (if e = k % 2 ^ d then 1 else 0) := by
  have h := sd_Cup (th := upd th k 0) (k := k) pk_us hk d e
  rw [← h1, sd_upup th k 0] at h
  exact h
/-- the greatest depth below n of a bucket -/
def sd_dd (th : Nat → Int32) : Nat → Nat
  | 0 => 0
  | n + 1 => if 0 < sd_od th n then n else sd_dd th n
theorem sd_dd9 (th : Nat → Int32) : sd_dd th 9 = sd_dd th 7 := by
  have h8 := sd_o7 th (d := 7) (by decide)
  have h9 := sd_o7 th (d := 8) (by decide)
  rw [sd_dd, h9, if_neg (by decide), sd_dd, h8, if_neg (by decide)]
theorem sd_dd_le (th : Nat → Int32) (n : Nat) : sd_dd th n ≤ n := by
  induction n with
  | zero => exact Nat.le_refl 0
  | succ n ih => rw [sd_dd]; split <;> omega
/-- endings and their numbers -/
theorem sd_inj {d e d' e' : Nat} (h : 2 ^ d + e = 2 ^ d' + e') (he : e < 2 ^ d) (he' : e' < 2 ^ d') : d = d' ∧ e = e' := by
  by_cases h1 : d < d'
  · have := Nat.pow_le_pow_right (n := 2) (by decide) (show d + 1 ≤ d' from h1)
    rw [Nat.pow_succ] at this
    omega
  · by_cases h2 : d' < d
    · have := Nat.pow_le_pow_right (n := 2) (by decide) (show d' + 1 ≤ d from h2)
      rw [Nat.pow_succ] at this
      omega
    · obtain rfl : d = d' := by omega
      exact ⟨rfl, by omega⟩
theorem sd_p6 {d : Nat} (hd : d ≤ 6) : 2 ^ d ≤ 64 := Nat.pow_le_pow_right (n := 2) (by decide) hd
theorem sd_p8 {d : Nat} (hd : d ≤ 8) : 2 ^ d ≤ 256 := Nat.pow_le_pow_right (n := 2) (by decide) hd
theorem sd_ml (k d : Nat) : k % 2 ^ d < 2 ^ d := Nat.mod_lt _ (Nat.two_pow_pos d)
theorem sd_b6 {d : Nat} (k : Nat) (hd : d ≤ 6) : 2 ^ d + k % 2 ^ d < 128 := by
  have h1 := sd_p6 hd
  have h2 := sd_ml k d
  omega
theorem sd_b8 {d : Nat} (k : Nat) (hd : d ≤ 8) : 2 ^ d - 1 + k % 2 ^ d < 511 := by
  have h1 := sd_p8 hd
  have h2 := sd_ml k d
  omega
theorem sd_shF : ∀ d : Fin 9, (1 : Int32) <<< (nI d.val &&& 31) = nI (2 ^ d.val) := by decide +kernel
theorem sd_sh {d : Nat} (hd : d ≤ 8) : (1 : Int32) <<< (nI d &&& 31) = nI (2 ^ d) := sd_shF ⟨d, by omega⟩
theorem sd_enF : ∀ d : Fin 9, ∀ k : Fin 256, nI (2 ^ d.val) ||| (nI k.val &&& (nI (2 ^ d.val) - 1)) = nI (2 ^ d.val + k.val % 2 ^ d.val) := by decide +kernel
theorem sd_en {k d : Nat} (hk : k < 256) (hd : d ≤ 8) : nI (2 ^ d) ||| (nI k &&& (nI (2 ^ d) - 1)) = nI (2 ^ d + k % 2 ^ d) := sd_enF ⟨d, by omega⟩ ⟨k, hk⟩
theorem sd_eyF : ∀ d : Fin 9, ∀ k : Fin 256, (nI (2 ^ d.val) - 1) + (nI k.val &&& (nI (2 ^ d.val) - 1)) = nI (2 ^ d.val - 1 + k.val % 2 ^ d.val) := by decide +kernel
theorem sd_ey {k d : Nat} (hk : k < 256) (hd : d ≤ 8) : (nI (2 ^ d) - 1) + (nI k &&& (nI (2 ^ d) - 1)) = nI (2 ^ d - 1 + k % 2 ^ d) := sd_eyF ⟨d, by omega⟩ ⟨k, hk⟩
end
section
/-! the component's methods, each: its value's post gives the walk -/
def sd_K (th kw : Nat → Int32) : Prop := ∀ d, d ≤ 6 → ∀ e, e < 2 ^ d → kw (2 ^ d + e) = nI (sd_C th d e 256)
theorem sd_vb0 : vp_nar .boolean 0 = 0 := by decide
theorem sd_vb1 : vp_nar .boolean 1 = 1 := by decide
theorem sd_kc {th kw : Nat → Int32} (hc : sd_K th kw) (k : Nat) {d : Nat} (hd : d ≤ 6) : kw (nI (2 ^ d + k % 2 ^ d)).toNatClampNeg = nI (sd_c th k d) := by
  rw [nI_clamp (Nat.lt_trans (sd_b6 k hd) (by decide))]
  exact hc d hd _ (sd_ml k d)
theorem sd_kyX {post : Int32 → Prop} {k : Nat} (hk : k < 256) (h : post 1) : wpX_isKey post (nI k) :=
  br_f (nI_pos (by omega)) (br_f (nI_ge (b := 256) hk (by decide)) h)
theorem sd_knX {post : Int32 → Prop} {p : Int32} (hk : ¬ ∃ k, k < 256 ∧ p = nI k) (h : post 0) : wpX_isKey post p := by
  refine br_c (fun _ => h) fun h0 => br_c (fun _ => h) fun h1 => ?_
  obtain ⟨j, hj, rfl⟩ := nI_of h0
  refine absurd ⟨j, ?_, rfl⟩ hk
  by_cases z : j < 256
  · exact z
  · exact absurd (nI_le (a := 256) (b := j) (by omega) hj) h1
theorem sd_endX {post : Int32 → Prop} {k d : Nat} (hk : k < 256) (hd : d ≤ 8) (h : post (nI (2 ^ d + k % 2 ^ d))) : wpX_endingOf post (nI k) (nI d) := by
  intro x ex
  rw [sd_sh hd] at ex
  subst ex
  rw [sd_en hk hd]
  exact h
theorem sd_sizX {post : Int32 → Prop} {th va kw : Nat → Int32} (hc : sd_K th kw) (h : post (nI (sd_c th 0 0))) : wpX_size post (th, va, kw) := by
  unfold wpX_size
  dsimp only
  rw [← nI_0]
  refine sd_endX (k := 0) (d := 0) (by decide) (by decide) ⟨vp_in_nI (by decide) (by decide), ?_⟩
  rw [sd_kc hc 0 (by decide)]
  exact h
theorem sd_samX {post : Int32 → Prop} {a b d : Nat} (ha : a < 256) (hb : b < 256) (hd : d ≤ 6) (h1 : a % 2 ^ d = b % 2 ^ d → post 1) (h0 : a % 2 ^ d ≠ b % 2 ^ d → post 0) : wpX_sameEnding post (nI a) (nI b) (nI d) := by
  unfold wpX_sameEnding
  have ea := sd_b6 a hd
  have eb := sd_b6 b hd
  refine sd_endX ha (by omega) (sd_endX hb (by omega) ?_)
  exact pk_eq (2 ^ d + a % 2 ^ d) (2 ^ d + b % 2 ^ d) (fun e => h1 (Nat.add_left_cancel e)) (fun e => h0 fun z => e (by rw [z])) rfl rfl (by omega) (by omega)
theorem sd_depX_l {post : Int32 → Prop} {th va kw : Nat → Int32} (hc : sd_K th kw) {k : Nat} (hk : k < 256) : ∀ m d, m + d = 6 → post (nI (sd_dF th k m d)) → wX_bucketDepth_2 post (nI k) th va kw (m + 1) (nI d) := by
  intro m
  induction m with
  | zero =>
    intro d hd hp
    obtain rfl : d = 6 := by omega
    exact br_t (nI_le (a := 6) (b := 6) (by decide) (by decide)) hp
  | succ m ih =>
    intro d hd hp
    have hv := sd_kc hc k (d := d) (by omega)
    have hb := sd_c_le th k d
    rw [sd_dF] at hp
    refine br_f (nI_ge (b := 6) (by omega) (by decide)) (sd_endX hk (by omega) ⟨vp_in_nI (sd_b6 k (by omega)) (by decide), ?_⟩)
    refine pk_lt 4 (sd_c th k d) (fun h => nm_r (nI_1 d) (ih (d + 1) (by omega) ?_)) (fun h => ?_) rfl hv (by decide) (by omega)
    · rw [if_neg (by omega)] at hp; exact hp
    · rw [if_pos (by omega)] at hp; exact hp
theorem sd_depX {post : Int32 → Prop} {th va kw : Nat → Int32} (hc : sd_K th kw) {k : Nat} (hk : k < 256) (h : post (nI (sd_dp th k))) : wpX_bucketDepth post (th, va, kw) (nI k) :=
  ⟨7, sd_depX_l hc hk 6 0 rfl h⟩
theorem sd_odX {post : Int32 → Prop} {th va kw : Nat → Int32} (hc : sd_K th kw) {d : Nat} (hd : d ≤ 6) (h : post (nI (sd_od th d))) : wpX_ofDepth post (th, va, kw) (nI d) := by
  have h2 := sd_p6 hd
  refine br_f (nI_pos (by omega)) (br_t (nI_le (b := 6) hd (by decide)) ?_)
  refine loop_0 (fun n i s => wX_ofDepth_16 post (nI d) th va kw n s (nI i)) (fun i s => s = nI (sd_cn (fun e => decide (sd_dp th e = d)) i)) (2 ^ d) 0 rfl ?_ ?_
  · intro n s hs
    subst hs
    exact br_t (by rw [sd_sh (by omega)]; exact Int32.le_refl _) h
  · intro n i s hi hs ih
    subst hs
    have h6 := (sd_dp_s th i).1
    refine br_f (by rw [sd_sh (by omega)]; exact nI_ge hi (by omega)) ?_
    refine sd_depX hc (by omega) ?_
    refine pk_eq (sd_dp th i) d (fun e => nm_r (nI_1 _) (nm_r (nI_1 _) (ih _ ?_))) (fun e => nm_r (nI_1 _) (ih _ ?_)) rfl rfl (by omega) (by omega)
    · rw [sd_cs1 (decide_eq_true e)]
    · rw [sd_cs0 (decide_eq_false e)]
theorem sd_onX {post : Int32 → Prop} {th va kw : Nat → Int32} {p : Int32} (hp : ¬ ∃ d, d ≤ 6 ∧ p = nI d) (h : post 0) : wpX_ofDepth post (th, va, kw) p := by
  refine br_c (fun _ => h) fun h0 => br_c (fun h1 => ?_) fun _ => h
  obtain ⟨j, hj, rfl⟩ := nI_of h0
  refine absurd ⟨j, ?_, rfl⟩ hp
  exact (nI_leI (b := 6) hj (by decide)).mp h1
theorem sd_deeX {post : Int32 → Prop} {th va kw : Nat → Int32} (hc : sd_K th kw) (h : post (nI (sd_dd th 7))) : wpX_deepest post (th, va, kw) := by
  refine loop_0 (fun n i s => wX_deepest_4 post th va kw n s (nI i)) (fun i s => s = nI (sd_dd th i)) 7 0 rfl ?_ ?_
  · intro n s hs
    subst hs
    exact br_t (nI_lt (a := 6) (b := 7) (by decide) (by decide)) h
  · intro n i s hi hs ih
    subst hs
    have hb := sd_od_le th (d := i) (by omega)
    refine br_f (nI_nlt (a := 6) (b := i) (by omega) (by decide)) (sd_odX hc (by omega) ?_)
    refine pk_le (sd_od th i) 0 (fun z => nm_r (nI_1 i) (ih _ ?_)) (fun z => nm_r (nI_1 i) (ih _ ?_)) rfl rfl (by omega) (by decide)
    · rw [sd_dd, if_neg (by omega)]
    · rw [sd_dd, if_pos z]
theorem sd_cntX {post : SX → Prop} {th va kw : Nat → Int32} {k : Nat} (hk : k < 256) (ch : Int32) (h : ∀ kw', (∀ d, d ≤ 6 → ∀ e, e < 2 ^ d → kw' (2 ^ d + e) = if e = k % 2 ^ d then kw (2 ^ d + e) + ch else kw (2 ^ d + e)) → post (th, va, kw')) : wpX_countKey post (th, va, kw) (nI k) ch := by
  refine loop_0 (fun n i s => wX_countKey_2 post (nI k) ch n (nI i) th va s) (fun D s => ∀ d, d ≤ 6 → ∀ e, e < 2 ^ d → s (2 ^ d + e) = if d < D ∧ e = k % 2 ^ d then kw (2 ^ d + e) + ch else kw (2 ^ d + e)) 7 kw ?_ ?_ ?_
  · intro d _ e _
    rw [if_neg (fun z => absurd z.1 (Nat.not_lt_zero d))]
  · intro n s hs
    refine br_t (nI_lt (a := 6) (b := 7) (by decide) (by decide)) (h s fun d hd e he => ?_)
    rw [hs d hd e he]
    by_cases z : e = k % 2 ^ d
    · rw [if_pos z, if_pos ⟨by omega, z⟩]
    · rw [if_neg z, if_neg (fun y => z y.2)]
  · intro n D s hD hs ih
    have hcl := nI_clamp (n := 2 ^ D + k % 2 ^ D) (Nat.lt_trans (sd_b6 k (by omega)) (by decide))
    have hin : vp_in (nI (2 ^ D + k % 2 ^ D)) 128 := vp_in_nI (sd_b6 k (by omega)) (by decide)
    refine br_f (nI_nlt (a := 6) (b := D) (by omega) (by decide)) (sd_endX hk (by omega) ⟨hin, hin, nm_e (nm_r (nI_1 D) (ih _ ?_))⟩)
    intro d hd e he
    rw [hcl]
    by_cases z : 2 ^ d + e = 2 ^ D + k % 2 ^ D
    · obtain ⟨hdD, heD⟩ := sd_inj z he (sd_ml k D)
      subst hdD
      subst heD
      rw [pk_us, if_pos ⟨Nat.lt_succ_self d, rfl⟩, hs d hd _ he, if_neg (fun z => absurd z.1 (Nat.lt_irrefl d))]
    · rw [pk_un z, hs d hd e he]
      by_cases y : e = k % 2 ^ d
      · by_cases x : d < D
        · rw [if_pos ⟨x, y⟩, if_pos ⟨by omega, y⟩]
        · have hne : d ≠ D := fun q => z (by rw [y, q])
          rw [if_neg (fun w => x w.1), if_neg (fun w => absurd w.1 (by omega))]
      · rw [if_neg (fun w => y w.2), if_neg (fun w => y w.2)]
theorem sd_bkX_e {th kw : Nat → Int32} (hc : sd_K th kw) : 1 + sd_cn (fun j => decide (¬ kw (1 + j) ≤ (4 : Int32))) 63 = sd_bk th := by
  have hM : ∀ d, d ≤ 5 → sd_cn (fun i => decide (¬ kw (2 ^ d + i) ≤ (4 : Int32))) (2 ^ d) = sd_M th d := by
    intro d hd
    refine sd_cn_cg fun i hi => decide_eq_decide.mpr ?_
    have hb := sd_C_le th d i 256
    rw [hc d (by omega) i hi, show (4 : Int32) = nI 4 from rfl, nI_leI (by omega) (by decide)]
    omega
  have h0 := hM 0 (by decide)
  have h1 := hM 1 (by decide)
  have h2 := hM 2 (by decide)
  have h3 := hM 3 (by decide)
  have h4 := hM 4 (by decide)
  have h5 := hM 5 (by decide)
  have s5 := sd_cn_ad (fun j => decide (¬ kw (1 + j) ≤ (4 : Int32))) 31 32
  have s4 := sd_cn_ad (fun j => decide (¬ kw (1 + j) ≤ (4 : Int32))) 15 16
  have s3 := sd_cn_ad (fun j => decide (¬ kw (1 + j) ≤ (4 : Int32))) 7 8
  have s2 := sd_cn_ad (fun j => decide (¬ kw (1 + j) ≤ (4 : Int32))) 3 4
  have s1 := sd_cn_ad (fun j => decide (¬ kw (1 + j) ≤ (4 : Int32))) 1 2
  simp only [← Nat.add_assoc, Nat.reduceAdd, Nat.reducePow] at h0 h1 h2 h3 h4 h5 s1 s2 s3 s4 s5
  rw [sd_bk, s5, s4, s3, s2, s1, h0, h1, h2, h3, h4, h5]
theorem sd_bkX {post : Int32 → Prop} {th va kw : Nat → Int32} (hc : sd_K th kw) (h : post (nI (sd_bk th))) : wpX_buckets post (th, va, kw) := by
  refine loop_0 (fun n i s => wX_buckets_4 post th va kw n s (nI (1 + i))) (fun i s => s = nI (1 + sd_cn (fun j => decide (¬ kw (1 + j) ≤ (4 : Int32))) i)) 63 1 rfl ?_ ?_
  · intro n s hs
    rw [sd_bkX_e hc] at hs
    subst hs
    exact br_t (nI_le (a := 64) (b := 1 + 63) (by decide) (by decide)) h
  · intro n i s hi hs ih
    subst hs
    have hcl := nI_clamp (n := 1 + i) (by omega)
    refine br_f (nI_ge (b := 64) (by omega) (by decide)) ⟨vp_in_nI (by omega) (by decide), ?_⟩
    rw [hcl]
    refine br_c (fun z => nm_r (nI_1 _) (ih _ ?_)) (fun z => nm_r (nI_1 _) (nm_r (nI_1 _) (ih _ ?_)))
    · rw [sd_cs0 (decide_eq_false fun w => w z)]
    · rw [sd_cs1 (decide_eq_true z), Nat.add_assoc]
theorem sd_hasX1 {post : Int32 → Prop} {th va kw : Nat → Int32} {k : Nat} (hk : k < 256) (h0 : th k = 0 → post 0) (h1 : th k ≠ 0 → post 1) : wpX_has post (th, va, kw) (nI k) := by
  unfold wpX_has
  dsimp only
  refine sd_kyX hk (br_f (by decide) ⟨vp_in_nI hk (by decide), ?_⟩)
  rw [nI_clamp (by omega)]
  exact br_c h0 h1
theorem sd_hasXn {post : Int32 → Prop} {th va kw : Nat → Int32} {p : Int32} (hk : ¬ ∃ k, k < 256 ∧ p = nI k) (h : post 0) : wpX_has post (th, va, kw) p := by
  unfold wpX_has
  dsimp only
  exact sd_knX hk (br_t rfl h)
theorem sd_remXn {post : Int32 → SX → Prop} {th va kw : Nat → Int32} {p : Int32} (hk : ¬ ∃ k, k < 256 ∧ p = nI k) (h : post (-1) (th, va, kw)) : wpX_remove post (th, va, kw) p := by
  unfold wpX_remove
  dsimp only
  exact sd_hasXn hk (br_t rfl h)
theorem sd_remX0 {post : Int32 → SX → Prop} {th va kw : Nat → Int32} {k : Nat} (hk : k < 256) (h0 : th k = 0) (h : post (-1) (th, va, kw)) : wpX_remove post (th, va, kw) (nI k) := by
  unfold wpX_remove
  dsimp only
  exact sd_hasX1 hk (fun _ => br_t rfl h) (fun z => absurd h0 z)
theorem sd_remX1 {post : Int32 → SX → Prop} {th va kw : Nat → Int32} (hc : sd_K th kw) {k : Nat} (hk : k < 256) (h1 : th k = 1) (h : ∀ kw', sd_K (upd th k 0) kw' → post (nI (sd_bk (upd th k 0))) (upd th k 0, va, kw')) : wpX_remove post (th, va, kw) (nI k) := by
  unfold wpX_remove
  dsimp only
  refine sd_hasX1 hk (fun z => absurd (h1.symm.trans z) (by decide)) (fun _ => br_f (by decide) ⟨vp_in_nI hk (by decide), ?_⟩)
  rw [nI_clamp (by omega), sd_vb0]
  refine nm_e (sd_cntX hk (-1) fun kw' hw => ?_)
  dsimp only
  have hc' : sd_K (upd th k 0) kw' := by
    intro d hd e he
    have hC := sd_Cdn h1 hk d e
    rw [hw d hd e he, hc d hd e he, hC]
    by_cases z : e = k % 2 ^ d
    · rw [if_pos z, if_pos z, pk_m1]
    · rw [if_neg z, if_neg z, Nat.add_zero]
  exact sd_bkX hc' (h kw' hc')
theorem sd_putXn {post : Int32 → SX → Prop} {th va kw : Nat → Int32} {p v : Int32} (hk : ¬ ∃ k, k < 256 ∧ p = nI k) (h : post (-1) (th, va, kw)) : wpX_put post (th, va, kw) p v := by
  unfold wpX_put
  dsimp only
  exact sd_knX hk (br_t rfl h)
theorem sd_pu4X {post : Int32 → SX → Prop} {th va kw : Nat → Int32} (hc : sd_K th kw) {k : Nat} (hk : k < 256) {v : Int32} (h : post (nI (sd_bk th)) (th, upd va k v, kw)) : wX_put_43 post (nI k) v th va kw := by
  refine ⟨vp_in_nI hk (by decide), ?_⟩
  rw [nI_clamp (by omega)]
  exact nm_e (sd_bkX hc h)
theorem sd_putX1 {post : Int32 → SX → Prop} {th va kw : Nat → Int32} (hc : sd_K th kw) {k : Nat} (hk : k < 256) {v : Int32} (h1 : th k ≠ 0) (h : post (nI (sd_bk th)) (th, upd va k v, kw)) : wpX_put post (th, va, kw) (nI k) v := by
  unfold wpX_put
  dsimp only
  refine sd_kyX hk (br_f (by decide) ⟨vp_in_nI hk (by decide), ?_⟩)
  rw [nI_clamp (by omega)]
  exact br_f h1 (sd_pu4X hc hk h)
theorem sd_putX0 {post : Int32 → SX → Prop} {th va kw : Nat → Int32} (hc : sd_K th kw) {k : Nat} (hk : k < 256) {v : Int32} (h0 : th k = 0) (hf : 40 ≤ sd_c th 0 0 → post (-2) (th, va, kw)) (h : sd_c th 0 0 < 40 → ∀ kw', sd_K (upd th k 1) kw' → post (nI (sd_bk (upd th k 1))) (upd th k 1, upd va k v, kw')) : wpX_put post (th, va, kw) (nI k) v := by
  have hb := sd_c_le th 0 0
  unfold wpX_put
  dsimp only
  refine sd_kyX hk (br_f (by decide) ⟨vp_in_nI hk (by decide), ?_⟩)
  rw [nI_clamp (by omega)]
  refine br_t h0 (sd_sizX hc ?_)
  refine pk_lt (sd_c th 0 0) 40 (fun z => ⟨vp_in_nI hk (by decide), ?_⟩) hf rfl rfl (by omega) (by decide)
  rw [sd_vb1]
  refine nm_e (sd_cntX hk 1 fun kw' hw => ?_)
  dsimp only
  have hc' : sd_K (upd th k 1) kw' := by
    intro d hd e he
    have hC := sd_Cup h0 hk d e
    rw [hw d hd e he, hc d hd e he, hC]
    by_cases y : e = k % 2 ^ d
    · rw [if_pos y, if_pos y, nI_1]
    · rw [if_neg y, if_neg y, Nat.add_zero]
  exact sd_pu4X hc' hk (h z kw' hc')
theorem sd_groXn {post : Int32 → Prop} {th va kw : Nat → Int32} {p : Int32} (hk : ¬ ∃ k, k < 256 ∧ p = nI k) (h : post (-1)) : wpX_growth post (th, va, kw) p := by
  unfold wpX_growth
  dsimp only
  exact sd_knX hk (br_t rfl h)
theorem sd_groX {post : Int32 → Prop} {th va kw : Nat → Int32} (hc : sd_K th kw) {k : Nat} (hk : k < 256) (h1 : th k ≠ 0 → post 0) (h0 : th k = 0 → post (nI (sd_cn (fun d => decide (sd_c th k d = 4)) 6))) : wpX_growth post (th, va, kw) (nI k) := by
  unfold wpX_growth
  dsimp only
  refine sd_kyX hk (br_f (by decide) ⟨vp_in_nI hk (by decide), ?_⟩)
  rw [nI_clamp (by omega)]
  refine br_c (fun z => ?_) h1
  refine loop_0 (fun n i s => wX_growth_24 post (nI k) th va kw n s (nI i)) (fun i s => s = nI (sd_cn (fun d => decide (sd_c th k d = 4)) i)) 6 0 rfl ?_ ?_
  · intro n s hs
    subst hs
    exact br_t (nI_le (a := 6) (b := 6) (by decide) (by decide)) (h0 z)
  · intro n d s hd hs ih
    subst hs
    have hv := sd_kc hc k (d := d) (by omega)
    have hb := sd_c_le th k d
    refine br_f (nI_ge (b := 6) hd (by decide)) (sd_endX hk (by omega) ⟨vp_in_nI (sd_b6 k (by omega)) (by decide), ?_⟩)
    refine pk_eq (sd_c th k d) 4 (fun e => nm_r (nI_1 _) (nm_r (nI_1 _) (ih _ ?_))) (fun e => nm_r (nI_1 _) (ih _ ?_)) hv rfl (by omega) (by decide)
    · rw [sd_cs1 (decide_eq_true e)]
    · rw [sd_cs0 (decide_eq_false e)]
end
