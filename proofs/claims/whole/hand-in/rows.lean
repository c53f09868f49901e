section
/-! 00: rows of kit/rows that are used below (pasted) -/
theorem pk_us {f : Nat → Int32} {k : Nat} {x : Int32} : upd f k x k = x := if_pos rfl
theorem pk_un {f : Nat → Int32} {k j : Nat} {x : Int32} (h : j ≠ k) : upd f k x j = f j := if_neg h
theorem pk_sub {a b : Nat} (h : b ≤ a) : nI a - nI b = nI (a - b) := by
  obtain ⟨c, rfl⟩ : ∃ c, a = c + b := ⟨a - b, by omega⟩
  rw [← nI_add, Int32.add_sub_cancel, Nat.add_sub_cancel]
theorem pk_m1 (n : Nat) : nI (n + 1) + (-1) = nI n := by
  rw [← nI_1, Int32.add_assoc, show (1 : Int32) + (-1) = 0 from rfl, Int32.add_zero]
theorem pk_mul (a b : Nat) : nI a * nI b = nI (a * b) := (Int32.ofNat_mul a b).symm
theorem pk_ix (x : Int32) {n : Nat} (hn : n < 2 ^ 31) : x < 0 ∨ nI n ≤ x ∨ ∃ j : Nat, j < n ∧ x = nI j := by
  by_cases h : x < 0
  · exact Or.inl h
  · obtain ⟨j, hj, rfl⟩ := nI_of h
    by_cases h2 : j < n
    · exact Or.inr (Or.inr ⟨j, h2, rfl⟩)
    · exact Or.inr (Or.inl (nI_le (by omega) hj))
theorem pk_le {x y : Int32} {A B : Prop} (a b : Nat) (f : a ≤ b → A) (g : b < a → B) (hx : x = nI a := by rfl) (hy : y = nI b := by rfl) (ha : a < 2 ^ 31 := by omega) (hb : b < 2 ^ 31 := by omega) : (x ≤ y → A) ∧ (¬ x ≤ y → B) := by
  subst hx hy
  rw [nI_leI ha hb]
  exact ⟨f, fun z => g (by omega)⟩
theorem pk_lt {x y : Int32} {A B : Prop} (a b : Nat) (f : a < b → A) (g : b ≤ a → B) (hx : x = nI a := by rfl) (hy : y = nI b := by rfl) (ha : a < 2 ^ 31 := by omega) (hb : b < 2 ^ 31 := by omega) : (x < y → A) ∧ (¬ x < y → B) := by
  subst hx hy
  rw [nI_ltI ha hb]
  exact ⟨f, fun z => g (by omega)⟩
theorem pk_eq {x y : Int32} {A B : Prop} (a b : Nat) (f : a = b → A) (g : a ≠ b → B) (hx : x = nI a := by rfl) (hy : y = nI b := by rfl) (ha : a < 2 ^ 31 := by omega) (hb : b < 2 ^ 31 := by omega) : (x = y → A) ∧ (¬ x = y → B) := by
  subst hx hy
  rw [nI_eq ha hb]
  exact ⟨f, g⟩
theorem pk_in {x : Int32} (n N : Nat) (h : n < N) (hx : x = nI n := by rfl) (hN : N < 2 ^ 31 := by omega) : vp_in x N := by
  subst hx
  exact vp_in_nI h hN
theorem pk_cl {x : Int32} (n : Nat) (hx : x = nI n := by rfl) (h : n < 2 ^ 31 := by omega) : x.toNatClampNeg = n := by
  subst hx
  exact nI_clamp h
theorem pk_tn {n : Nat} (h : n < 2 ^ 32) : (nI n).toBitVec.toNat = n := Nat.mod_eq_of_lt h
theorem pk_and (x : Int32) {m : Int32} (k : Nat) (hm : m.toBitVec.toNat = 2 ^ k - 1) : x &&& m = nI (x.toBitVec.toNat % 2 ^ k) := by
  apply Int32.toBitVec_inj.mp
  apply BitVec.eq_of_toNat_eq
  rw [Int32.toBitVec_and, BitVec.toNat_and, hm, Nat.and_two_pow_sub_one_eq_mod]
  show _ = (BitVec.ofNat 32 _).toNat
  rw [BitVec.toNat_ofNat]
  exact (Nat.mod_eq_of_lt (Nat.lt_of_le_of_lt (Nat.mod_le _ _) x.toBitVec.isLt)).symm
theorem pk_andN {n : Nat} (h : n < 2 ^ 32) {m : Int32} (k : Nat) (hm : m.toBitVec.toNat = 2 ^ k - 1) : nI n &&& m = nI (n % 2 ^ k) := by
  rw [pk_and _ k hm, pk_tn h]
theorem pk_shl (a s : Int32) (k : Nat) (hs : (s.toBitVec.smod 32).toNat = k) : (a <<< s).toBitVec.toNat = a.toBitVec.toNat * 2 ^ k % 2 ^ 32 := by
  show (a.toBitVec <<< (s.toBitVec.smod 32).toNat).toNat = _
  rw [hs, BitVec.toNat_shiftLeft, Nat.shiftLeft_eq]
theorem pk_shlN {n : Nat} (s : Int32) (k : Nat) (hs : (s.toBitVec.smod 32).toNat = k) (h : n * 2 ^ k < 2 ^ 32) : nI n <<< s = nI (n * 2 ^ k) := by
  apply Int32.toBitVec_inj.mp
  apply BitVec.eq_of_toNat_eq
  have hn : n < 2 ^ 32 := Nat.lt_of_le_of_lt (Nat.le_mul_of_pos_right n (Nat.two_pow_pos k)) h
  rw [pk_shl _ _ k hs, pk_tn hn, pk_tn h, Nat.mod_eq_of_lt h]
theorem pk_shr (a s : Int32) (k : Nat) (hs : (s.toBitVec.smod 32).toNat = k) : (a >>> s).toInt = a.toInt >>> k := by
  show (a.toBitVec.sshiftRight (s.toBitVec.smod 32).toNat).toInt = _
  rw [hs, BitVec.toInt_sshiftRight]
  rfl
theorem pk_shrN {n : Nat} (h : n < 2 ^ 31) (s : Int32) (k : Nat) (hs : (s.toBitVec.smod 32).toNat = k) : nI n >>> s = nI (n / 2 ^ k) := by
  apply Int32.toInt_inj.mp
  have h2 : n / 2 ^ k ≤ n := Nat.div_le_self _ _
  rw [pk_shr _ _ k hs, nI_toInt h, nI_toInt (by omega), Int.shiftRight_eq_div_pow]
  rfl
theorem pk_loop {σ : Type} (W : Nat → Nat → σ → Prop) (I : Nat → σ → Prop) (e i0 : Nat) (s : σ) (hi : i0 ≤ e) (h0 : I i0 s) (hx : ∀ n s, I e s → W (n + 1) e s)
    (hs : ∀ n i s, i < e → I i s → (∀ s', I (i + 1) s' → W n (i + 1) s') → W (n + 1) i s) : ∃ n, W n i0 s :=
  ⟨e + 1, loop_i W I e hx hs (e + 1) i0 s hi (by omega) h0⟩
theorem ek_if {c d A B : Prop} (e : c ↔ d) (f : d → A) (g : ¬ d → B) : (c → A) ∧ (¬ c → B) :=
  ⟨fun z => f (e.mp z), fun z => g (fun y => z (e.mpr y))⟩
theorem ek_v {α : Sort _} {P : α → Prop} {a b : α} (e : a = b) (h : P b) : P a := e ▸ h
theorem s_l : ∀ n, n < 32 → ((nI n &&& 31).toBitVec.smod 32).toNat = n := by decide +kernel
end
section
/-! 01: words by their codes c (at least 1; the length is Nat.log2 c), languages as Nat → Prop, counting -/
noncomputable def wr_d (p : Prop) : Int32 := @ite Int32 p (Classical.propDecidable p) 1 0
theorem wr_dt {p : Prop} (h : p) : wr_d p = 1 := if_pos h
theorem wr_df {p : Prop} (h : ¬ p) : wr_d p = 0 := if_neg h
theorem wr_d1 {p : Prop} : wr_d p = 1 ↔ p :=
  ⟨fun e => Classical.byContradiction fun h => absurd ((wr_df h).symm.trans e) (by decide), wr_dt⟩
theorem wr_d0 {p : Prop} : wr_d p = 0 ↔ ¬ p :=
  ⟨fun e h => absurd ((wr_dt h).symm.trans e) (by decide), wr_df⟩
theorem wr_dc {p q : Prop} (h : p ↔ q) : wr_d p = wr_d q := congrArg wr_d (propext h)
theorem wr_dn (p : Prop) : narrow .boolean (.int (wr_d p)) = .int (wr_d p) := by
  by_cases h : p
  · rw [wr_dt h]; rfl
  · rw [wr_df h]; rfl
theorem wr_dv (p : Prop) : vp_nar .boolean (wr_d p) = wr_d p := by
  by_cases h : p
  · rw [wr_dt h]; first | rfl | decide
  · rw [wr_df h]; first | rfl | decide
theorem wr_T : wr_d True = 1 := wr_dt trivial
theorem wr_Fa : wr_d False = 0 := wr_df (fun h => h)
noncomputable def wr_o (p : Prop) : Nat := @ite Nat p (Classical.propDecidable p) 1 0
theorem wr_ot {p : Prop} (h : p) : wr_o p = 1 := if_pos h
theorem wr_of {p : Prop} (h : ¬ p) : wr_o p = 0 := if_neg h
theorem wr_ol (p : Prop) : wr_o p ≤ 1 := by
  by_cases h : p
  · rw [wr_ot h]; exact Nat.le_refl 1
  · rw [wr_of h]; exact Nat.zero_le 1
theorem wr_oc {p q : Prop} (h : p ↔ q) : wr_o p = wr_o q := congrArg wr_o (propext h)
/-! lengths, heads, tails -/
theorem wr_lg {c l : Nat} (h1 : 2 ^ l ≤ c) (h2 : c < 2 ^ (l + 1)) : Nat.log2 c = l :=
  (Nat.log2_eq_iff (Nat.ne_of_gt (Nat.lt_of_lt_of_le (Nat.two_pow_pos l) h1))).mpr ⟨h1, h2⟩
theorem wr_lg1 {c : Nat} (h : 1 ≤ c) : 2 ^ Nat.log2 c ≤ c := Nat.log2_self_le (by omega)
theorem wr_lg2 {c : Nat} : c < 2 ^ (Nat.log2 c + 1) := Nat.lt_log2_self
theorem wr_lgN {c N : Nat} (h1 : 1 ≤ c) (h : c < 2 ^ (N + 1)) : Nat.log2 c ≤ N := by
  have := (Nat.log2_lt (n := c) (k := N + 1) (by omega)).mpr h
  omega
theorem wr_pw {a b : Nat} (h : a ≤ b) : 2 ^ a ≤ 2 ^ b := Nat.pow_le_pow_right (by decide) h
theorem wr_a1 {p m : Nat} (h : m < p) : p + m < p * 2 := by omega
theorem wr_tlt (c t : Nat) : 2 ^ t + c % 2 ^ t < 2 ^ (t + 1) := by
  rw [Nat.pow_succ]
  exact wr_a1 (Nat.mod_lt c (Nat.two_pow_pos t))
theorem wr_tl1 (c t : Nat) : 1 ≤ 2 ^ t + c % 2 ^ t := Nat.le_trans (Nat.two_pow_pos t) (Nat.le_add_right _ _)
theorem wr_lgt (c t : Nat) : Nat.log2 (2 ^ t + c % 2 ^ t) = t := wr_lg (Nat.le_add_right _ _) (wr_tlt c t)
theorem wr_lgd {c t : Nat} (h1 : 1 ≤ c) (ht : t ≤ Nat.log2 c) : Nat.log2 (c / 2 ^ t) = Nat.log2 c - t := by
  have hp := Nat.two_pow_pos t
  obtain ⟨s, hs⟩ : ∃ s, Nat.log2 c = t + s := ⟨Nat.log2 c - t, by omega⟩
  have a := wr_lg1 h1
  have b := @wr_lg2 c
  rw [hs] at a b
  rw [hs, Nat.add_sub_cancel_left]
  apply wr_lg
  · rw [Nat.le_div_iff_mul_le hp, ← Nat.pow_add, Nat.add_comm s t]
    exact a
  · rw [Nat.div_lt_iff_lt_mul hp, ← Nat.pow_add, show s + 1 + t = t + s + 1 by omega]
    exact b
theorem wr_hd1 {c t : Nat} (h1 : 1 ≤ c) (ht : t ≤ Nat.log2 c) : 1 ≤ c / 2 ^ t := by
  rw [Nat.le_div_iff_mul_le (Nat.two_pow_pos t), Nat.one_mul]
  exact Nat.le_trans (wr_pw ht) (wr_lg1 h1)
theorem wr_hdl {c t l : Nat} (ht : 1 ≤ t) (h : c < 2 ^ (l + 1)) : c / 2 ^ t < 2 ^ l := by
  rw [Nat.div_lt_iff_lt_mul (Nat.two_pow_pos t), ← Nat.pow_add]
  exact Nat.lt_of_lt_of_le h (wr_pw (by omega))
theorem wr_h1 (c t s : Nat) : c / 2 ^ t / 2 ^ s = c / 2 ^ (t + s) := by rw [Nat.div_div_eq_div_mul, Nat.pow_add]
theorem wr_h2 (c t s : Nat) : (2 ^ (t + s) + c % 2 ^ (t + s)) / 2 ^ t = 2 ^ s + c / 2 ^ t % 2 ^ s := by
  rw [Nat.pow_add, Nat.mul_add_div (Nat.two_pow_pos t), Nat.mod_mul_right_div_self]
theorem wr_h3 (c t s : Nat) : (2 ^ (t + s) + c % 2 ^ (t + s)) % 2 ^ t = c % 2 ^ t := by
  rw [Nat.pow_add, Nat.mul_add_mod, Nat.mod_mul_right_mod]
/-! concatenation, one or more, reversal -/
def wr_Cat (A B : Nat → Prop) (c : Nat) : Prop := ∃ t, t ≤ Nat.log2 c ∧ A (c / 2 ^ t) ∧ B (2 ^ t + c % 2 ^ t)
def wr_C (A G : Nat → Prop) (c : Nat) : Prop := A c ∨ ∃ t, 1 ≤ t ∧ t < Nat.log2 c ∧ A (c / 2 ^ t) ∧ G (2 ^ t + c % 2 ^ t)
def wr_P (A : Nat → Prop) (c : Nat) : Prop := ∀ G : Nat → Prop, (∀ d, wr_C A G d → G d) → G c
theorem wr_Pi {A : Nat → Prop} {c : Nat} (h : wr_C A (wr_P A) c) : wr_P A c := fun G hG =>
  hG c (h.elim Or.inl fun ⟨t, h1, h2, h3, h4⟩ => Or.inr ⟨t, h1, h2, h3, h4 G hG⟩)
theorem wr_Pe {A : Nat → Prop} {c : Nat} (h : wr_P A c) : wr_C A (wr_P A) c :=
  h (fun d => wr_C A (wr_P A) d) fun _ hd => hd.elim Or.inl fun ⟨t, h1, h2, h3, h4⟩ => Or.inr ⟨t, h1, h2, h3, wr_Pi h4⟩
theorem wr_Pf {A : Nat → Prop} {c : Nat} : wr_P A c ↔ wr_C A (wr_P A) c := ⟨wr_Pe, wr_Pi⟩
theorem wr_Pc {A : Nat → Prop} : ∀ n c t : Nat, c < n → 1 ≤ c → 1 ≤ t → t < Nat.log2 c → wr_P A (c / 2 ^ t) → wr_P A (2 ^ t + c % 2 ^ t) → wr_P A c := by
  intro n
  induction n with
  | zero => exact fun c t h => absurd h (Nat.not_lt_zero c)
  | succ n ih =>
    intro c t hc h1 ht ht2 hu hv
    rcases wr_Pe hu with h | ⟨s, hs, hs2, ha, hb⟩
    · exact wr_Pi (Or.inr ⟨t, ht, ht2, h, hv⟩)
    · rw [wr_lgd h1 (by omega)] at hs2
      have hd : wr_P A (2 ^ (t + s) + c % 2 ^ (t + s)) := by
        refine ih _ t ?_ (wr_tl1 _ _) ht ?_ ?_ ?_
        · have b := wr_pw (show t + s + 1 ≤ Nat.log2 c by omega)
          exact Nat.lt_of_lt_of_le (Nat.lt_of_lt_of_le (wr_tlt c (t + s)) b) (Nat.le_trans (wr_lg1 h1) (by omega))
        · rw [wr_lgt]; omega
        · rw [wr_h2]; exact hb
        · rw [wr_h3]; exact hv
      rw [wr_h1] at ha
      exact wr_Pi (Or.inr ⟨t + s, by omega, by omega, ha, hd⟩)
theorem wr_PX {A : Nat → Prop} {c : Nat} (h1 : 1 ≤ c) : wr_P A c ↔ (A c ∨ ∃ t, 1 ≤ t ∧ t < Nat.log2 c ∧ wr_P A (c / 2 ^ t) ∧ wr_P A (2 ^ t + c % 2 ^ t)) :=
  ⟨fun h => (wr_Pe h).elim Or.inl fun ⟨t, a, b, d, e⟩ => Or.inr ⟨t, a, b, wr_Pi (Or.inl d), e⟩,
   fun h => h.elim (fun a => wr_Pi (Or.inl a)) fun ⟨t, a, b, d, e⟩ => wr_Pc (c + 1) c t (by omega) h1 a b d e⟩
theorem wr_P1 {A : Nat → Prop} {c : Nat} (h : Nat.log2 c ≤ 1) : wr_P A c ↔ A c :=
  ⟨fun x => (wr_Pe x).elim id fun ⟨t, a, b, _⟩ => absurd b (by omega), fun x => wr_Pi (Or.inl x)⟩
def wr_m (c : Nat) : Nat → Nat
  | 0 => 1
  | k + 1 => wr_m c k * 2 + c / 2 ^ k % 2
def wr_mi (c : Nat) : Nat := wr_m c (Nat.log2 c)
theorem wr_mt : ∀ l, l < 8 → ∀ c, c < 2 ^ l → wr_m (wr_m (2 ^ l + c) l) l = 2 ^ l + c := by decide +kernel
theorem wr_mb (c : Nat) : ∀ k, 2 ^ k ≤ wr_m c k ∧ wr_m c k < 2 ^ (k + 1) := by
  intro k
  induction k with
  | zero => exact (by decide : 1 ≤ 1 ∧ 1 < 2)
  | succ k ih =>
    have h : c / 2 ^ k % 2 < 2 := Nat.mod_lt _ (by decide)
    have e1 : 2 ^ (k + 1) = 2 ^ k * 2 := Nat.pow_succ ..
    have e2 : 2 ^ (k + 1 + 1) = 2 ^ (k + 1) * 2 := Nat.pow_succ ..
    show 2 ^ (k + 1) ≤ wr_m c k * 2 + c / 2 ^ k % 2 ∧ wr_m c k * 2 + c / 2 ^ k % 2 < 2 ^ (k + 1 + 1)
    generalize c / 2 ^ k % 2 = x at h ⊢
    omega
theorem wr_mil (c : Nat) : Nat.log2 (wr_mi c) = Nat.log2 c := wr_lg (wr_mb c _).1 (wr_mb c _).2
theorem wr_mi1 (c : Nat) : 1 ≤ wr_mi c := Nat.le_trans (Nat.two_pow_pos _) (wr_mb c _).1
theorem wr_miM {c N : Nat} (h1 : 1 ≤ c) (h : c < 2 ^ (N + 1)) : wr_mi c < 2 ^ (N + 1) :=
  Nat.lt_of_lt_of_le (wr_mb c _).2 (wr_pw (by have := wr_lgN h1 h; omega))
theorem wr_mm {c : Nat} (h1 : 1 ≤ c) (h : c < 256) : wr_mi (wr_mi c) = c := by
  have a := wr_lgN (N := 7) h1 h
  have b := wr_lg1 h1
  have d := @wr_lg2 c
  have e : 2 ^ (Nat.log2 c + 1) = 2 ^ Nat.log2 c * 2 := Nat.pow_succ ..
  have g := wr_mt (Nat.log2 c) (by omega) (c - 2 ^ Nat.log2 c) (by omega)
  rw [show 2 ^ Nat.log2 c + (c - 2 ^ Nat.log2 c) = c by omega] at g
  show wr_m (wr_mi c) (Nat.log2 (wr_mi c)) = c
  rw [wr_mil]
  exact g
theorem wr_mi2 {c : Nat} (h1 : 1 ≤ c) (h : c < 4) : wr_mi c = c := (by decide +kernel : ∀ c, c < 4 → 1 ≤ c → wr_mi c = c) c h h1
/-! counting -/
noncomputable def wr_n (P : Nat → Prop) (a : Nat) : Nat → Nat
  | 0 => 0
  | k + 1 => wr_n P a k + wr_o (P (a + k))
theorem wr_n_le (P : Nat → Prop) (a : Nat) : ∀ k, wr_n P a k ≤ k := by
  intro k
  induction k with
  | zero => exact Nat.le_refl 0
  | succ k ih =>
    have := wr_ol (P (a + k))
    show wr_n P a k + wr_o (P (a + k)) ≤ k + 1
    omega
theorem wr_n_add (P : Nat → Prop) (a m : Nat) : ∀ k, wr_n P a (m + k) = wr_n P a m + wr_n P (a + m) k := by
  intro k
  induction k with
  | zero => rfl
  | succ k ih =>
    show wr_n P a (m + k) + wr_o (P (a + (m + k))) = wr_n P a m + (wr_n P (a + m) k + wr_o (P (a + m + k)))
    rw [ih, Nat.add_assoc a m k]
    omega
theorem wr_n_mono (P : Nat → Prop) (a : Nat) {m k : Nat} (h : m ≤ k) : wr_n P a m ≤ wr_n P a k := by
  obtain ⟨j, rfl⟩ : ∃ j, k = m + j := ⟨k - m, by omega⟩
  rw [wr_n_add]
  exact Nat.le_add_right _ _
theorem wr_n_cg {P Q : Nat → Prop} {a : Nat} : ∀ k, (∀ c, a ≤ c → c < a + k → (P c ↔ Q c)) → wr_n P a k = wr_n Q a k := by
  intro k
  induction k with
  | zero => intro _; rfl
  | succ k ih =>
    intro h
    show wr_n P a k + wr_o (P (a + k)) = wr_n Q a k + wr_o (Q (a + k))
    rw [ih fun c h1 h2 => h c h1 (by omega), wr_oc (h (a + k) (by omega) (by omega))]
theorem wr_n_0 {P : Nat → Prop} {a : Nat} : ∀ k, (∀ c, a ≤ c → c < a + k → ¬ P c) → wr_n P a k = 0 := by
  intro k
  induction k with
  | zero => intro _; rfl
  | succ k ih =>
    intro h
    show wr_n P a k + wr_o (P (a + k)) = 0
    rw [ih fun c h1 h2 => h c h1 (by omega), wr_of (h (a + k) (by omega) (by omega))]
theorem wr_n_btw {P Q : Nat → Prop} {lo hi : Nat} (h1 : 1 ≤ lo) (h2 : lo ≤ hi) (h3 : hi ≤ 256) (hQ : ∀ c, Q c ↔ lo ≤ c ∧ c < hi ∧ P c) : wr_n Q 1 255 = wr_n P lo (hi - lo) := by
  have e : (lo - 1) + ((hi - lo) + (256 - hi)) = 255 := by omega
  have g : 1 + (lo - 1) = lo := by omega
  have a := wr_n_add Q 1 (lo - 1) ((hi - lo) + (256 - hi))
  have b := wr_n_add Q lo (hi - lo) (256 - hi)
  rw [e, g] at a
  have c0 : wr_n Q 1 (lo - 1) = 0 := wr_n_0 _ fun c h4 h5 h6 => by
    have q := ((hQ c).mp h6).1
    omega
  have d0 : wr_n Q (lo + (hi - lo)) (256 - hi) = 0 := wr_n_0 _ fun c h4 h5 h6 => by
    have q := ((hQ c).mp h6).2.1
    omega
  have f0 : wr_n Q lo (hi - lo) = wr_n P lo (hi - lo) := wr_n_cg _ fun c h4 h5 => ⟨fun h6 => ((hQ c).mp h6).2.2, fun h6 => (hQ c).mpr ⟨h4, by omega, h6⟩⟩
  omega
/-! the word that has k before it -/
def wr_F (M : Nat) (P : Nat → Prop) (k : Int32) (r : Nat) : Prop :=
  (r = 0 ∧ ∀ c, 1 ≤ c → c < M → P c → nI (wr_n P 1 (c - 1)) ≠ k) ∨ (1 ≤ r ∧ r < M ∧ P r ∧ nI (wr_n P 1 (r - 1)) = k)
theorem wr_Fl {M : Nat} {P : Nat → Prop} {k : Int32} {r s : Nat} (hM : M ≤ 256) (hr : 1 ≤ r) (hs : s < M) (pr : P r) (er : nI (wr_n P 1 (r - 1)) = k) (es : nI (wr_n P 1 (s - 1)) = k) : ¬ r < s := by
  intro h
  have a := wr_n_le P 1 (r - 1)
  have b := wr_n_le P 1 (s - 1)
  have c : wr_n P 1 (r - 1) = wr_n P 1 (s - 1) := (nI_eq (by omega) (by omega)).mp (er.trans es.symm)
  have d : wr_n P 1 (r - 1 + 1) = wr_n P 1 (r - 1) + wr_o (P (1 + (r - 1))) := rfl
  rw [show 1 + (r - 1) = r by omega, wr_ot pr] at d
  have e := wr_n_mono P 1 (show r - 1 + 1 ≤ s - 1 by omega)
  omega
theorem wr_Fu {M : Nat} {P : Nat → Prop} {k : Int32} {r s : Nat} (hM : M ≤ 256) (h1 : wr_F M P k r) (h2 : wr_F M P k s) : r = s := by
  rcases h1 with ⟨h1, g1⟩ | ⟨a1, b1, c1, d1⟩
  · rcases h2 with ⟨h2, g2⟩ | ⟨a2, b2, c2, d2⟩
    · omega
    · exact absurd d2 (g1 s a2 b2 c2)
  · rcases h2 with ⟨h2, g2⟩ | ⟨a2, b2, c2, d2⟩
    · exact absurd d1 (g2 r a1 b1 c1)
    · have x := wr_Fl hM a1 b2 c1 d1 d2
      have y := wr_Fl hM a2 b1 c2 d2 d1
      omega
/-! words that begin with a word -/
def wr_K (P : Nat → Prop) (l w : Nat) (c : Nat) : Prop := l ≤ Nat.log2 c ∧ c / 2 ^ (Nat.log2 c - l) = w ∧ P c
noncomputable def wr_S (P : Nat → Prop) (w : Nat) : Nat → Nat
  | 0 => 0
  | k + 1 => wr_S P w k + wr_n P (w * 2 ^ k) (2 ^ k)
theorem wr_KS {P : Nat → Prop} {l w : Nat} (h1 : 2 ^ l ≤ w) (h2 : w < 2 ^ (l + 1)) : ∀ k, wr_n (wr_K P l w) 1 (2 ^ (l + k) - 1) = wr_S P w k := by
  intro k
  induction k with
  | zero =>
    apply wr_n_0
    intro c a b x
    have y := wr_lg1 a
    have z := wr_pw x.1
    have p := Nat.two_pow_pos l
    rw [Nat.add_zero] at b
    omega
  | succ k ih =>
    have p := Nat.two_pow_pos k
    have q := Nat.two_pow_pos (l + k)
    have e0 : 2 ^ (l + k) = 2 ^ l * 2 ^ k := Nat.pow_add ..
    have e1 : 2 ^ (l + (k + 1)) = 2 ^ (l + k) * 2 := Nat.pow_succ ..
    have e2 : 2 ^ (l + 1) * 2 ^ k = 2 ^ (l + k) * 2 := by rw [Nat.pow_succ, e0]; ac_rfl
    have i1 : 2 ^ (l + k) ≤ w * 2 ^ k := by rw [e0]; exact Nat.mul_le_mul_right _ h1
    have i2 : (w + 1) * 2 ^ k ≤ 2 ^ (l + k) * 2 := by rw [← e2]; exact Nat.mul_le_mul_right _ h2
    rw [Nat.add_mul, Nat.one_mul] at i2
    have key : ∀ c, 2 ^ (l + k) ≤ c → c < 2 ^ (l + k) * 2 → (wr_K P l w c ↔ w * 2 ^ k ≤ c ∧ c < w * 2 ^ k + 2 ^ k ∧ P c) := by
      intro c a b
      have hl : Nat.log2 c = l + k := wr_lg a (by rw [Nat.pow_succ]; exact b)
      unfold wr_K
      rw [hl, Nat.add_sub_cancel_left]
      constructor
      · intro ⟨_, y, z⟩
        refine ⟨?_, ?_, z⟩
        · exact (Nat.le_div_iff_mul_le p).mp (Nat.le_of_eq y.symm)
        · have := (Nat.div_lt_iff_lt_mul p).mp (show c / 2 ^ k < w + 1 by omega)
          rw [Nat.add_mul, Nat.one_mul] at this
          exact this
      · intro ⟨x, y, z⟩
        refine ⟨Nat.le_add_right _ _, ?_, z⟩
        have u := (Nat.le_div_iff_mul_le p).mpr x
        have v : c / 2 ^ k < w + 1 := (Nat.div_lt_iff_lt_mul p).mpr (by rw [Nat.add_mul, Nat.one_mul]; exact y)
        omega
    have a := wr_n_add (wr_K P l w) 1 (2 ^ (l + k) - 1) (2 ^ (l + k))
    rw [show 2 ^ (l + k) - 1 + 2 ^ (l + k) = 2 ^ (l + (k + 1)) - 1 by omega, show 1 + (2 ^ (l + k) - 1) = 2 ^ (l + k) by omega, ih] at a
    have b := wr_n_add (wr_K P l w) (2 ^ (l + k)) (w * 2 ^ k - 2 ^ (l + k)) (2 ^ k + (2 ^ (l + k) * 2 - (w * 2 ^ k + 2 ^ k)))
    rw [show w * 2 ^ k - 2 ^ (l + k) + (2 ^ k + (2 ^ (l + k) * 2 - (w * 2 ^ k + 2 ^ k))) = 2 ^ (l + k) by omega, show 2 ^ (l + k) + (w * 2 ^ k - 2 ^ (l + k)) = w * 2 ^ k by omega] at b
    have b2 := wr_n_add (wr_K P l w) (w * 2 ^ k) (2 ^ k) (2 ^ (l + k) * 2 - (w * 2 ^ k + 2 ^ k))
    have c0 : wr_n (wr_K P l w) (2 ^ (l + k)) (w * 2 ^ k - 2 ^ (l + k)) = 0 := wr_n_0 _ fun c x y z => by
      have := ((key c x (by omega)).mp z).1
      omega
    have c1 : wr_n (wr_K P l w) (w * 2 ^ k + 2 ^ k) (2 ^ (l + k) * 2 - (w * 2 ^ k + 2 ^ k)) = 0 := wr_n_0 _ fun c x y z => by
      have := ((key c (by omega) (by omega)).mp z).2.1
      omega
    have c2 : wr_n (wr_K P l w) (w * 2 ^ k) (2 ^ k) = wr_n P (w * 2 ^ k) (2 ^ k) := wr_n_cg _ fun c x y =>
      ⟨fun z => ((key c (by omega) (by omega)).mp z).2.2, fun z => (key c (by omega) (by omega)).mpr ⟨x, y, z⟩⟩
    show _ = wr_S P w k + wr_n P (w * 2 ^ k) (2 ^ k)
    omega
/-! words that are alike -/
def wr_A (P : Nat → Prop) (r e c : Nat) : Prop := ∀ m, m ≤ r → ∀ z, z < 2 ^ m → (P (e * 2 ^ m + z) ↔ P (c * 2 ^ m + z))
def wr_G (P : Nat → Prop) (l r c : Nat) : Prop := ¬ ∃ e, 2 ^ l ≤ e ∧ e < c ∧ wr_A P r e c
theorem wr_As {P : Nat → Prop} {r e c : Nat} : wr_A P r e c ↔ wr_A P r c e := ⟨fun h m a z b => (h m a z b).symm, fun h m a z b => (h m a z b).symm⟩
theorem wr_Az {P : Nat → Prop} {r e c : Nat} : wr_A P r e c ↔ ∀ d, 1 ≤ d → d < 2 ^ (r + 1) → (P (e * 2 ^ Nat.log2 d + (d - 2 ^ Nat.log2 d)) ↔ P (c * 2 ^ Nat.log2 d + (d - 2 ^ Nat.log2 d))) := by
  constructor
  · intro h d a b
    have x := wr_lg1 a
    have y := @wr_lg2 d
    rw [Nat.pow_succ] at y
    exact h _ (wr_lgN a b) _ (by omega)
  · intro h m a z b
    have p := Nat.two_pow_pos m
    have e : Nat.log2 (2 ^ m + z) = m := wr_lg (Nat.le_add_right _ _) (by rw [Nat.pow_succ]; omega)
    have q := wr_pw (show m + 1 ≤ r + 1 by omega)
    rw [Nat.pow_succ] at q
    have g := h (2 ^ m + z) (by omega) (by omega)
    rw [e, Nat.add_sub_cancel_left] at g
    exact g
/-! letters, the index, what is chosen -/
def wr_s (L : Nat → Nat) : Nat → Nat
  | 0 => 0
  | k + 1 => wr_s L k + L k
theorem wr_s_cg {L M : Nat → Nat} : ∀ k, (∀ i, i < k → L i = M i) → wr_s L k = wr_s M k := by
  intro k
  induction k with
  | zero => intro _; rfl
  | succ k ih =>
    intro h
    show wr_s L k + L k = wr_s M k + M k
    rw [ih fun i hi => h i (by omega), h k (by omega)]
theorem wr_s_mono (L : Nat → Nat) {m k : Nat} (h : m ≤ k) : wr_s L m ≤ wr_s L k := by
  induction k with
  | zero => rw [show m = 0 by omega]; exact Nat.le_refl _
  | succ k ih =>
    show wr_s L m ≤ wr_s L k + L k
    by_cases e : m = k + 1
    · rw [e]; exact Nat.le_refl _
    · have := ih (by omega)
      omega
noncomputable def wr_i (S : Nat → Nat → Prop) (c : Nat) : Nat := wr_o (S 0 c) + 2 * wr_o (S 1 c) + 4 * wr_o (S 2 c)
def wr_Ch (S : Nat → Nat → Prop) (T c : Nat) : Prop := T / 2 ^ wr_i S c % 2 = 1
theorem wr_i8 (S : Nat → Nat → Prop) (c : Nat) : wr_i S c < 8 := by
  have a := wr_ol (S 0 c)
  have b := wr_ol (S 1 c)
  have d := wr_ol (S 2 c)
  unfold wr_i
  omega
/-- f with g at place i -/
def wr_u {α : Type _} (f : Nat → α) (i : Nat) (g : α) : Nat → α := fun j => if j = i then g else f j
theorem wr_us {α : Type _} {f : Nat → α} {i : Nat} {g : α} : wr_u f i g i = g := if_pos rfl
theorem wr_un {α : Type _} {f : Nat → α} {i j : Nat} {g : α} (h : j ≠ i) : wr_u f i g j = f j := if_neg h
end
section
/-! 02: shifts and masks of nI; cells of a language in an array: X's at o + code, Y's at o + code - 1 -/
theorem wr_p31 {t : Nat} (ht : t < 31) : 2 ^ t < 2 ^ 31 := Nat.pow_lt_pow_right (by decide) ht
theorem wr_shl {a t : Nat} (ht : t < 32) (h : a * 2 ^ t < 2 ^ 32) : nI a <<< (nI t &&& 31) = nI (a * 2 ^ t) := pk_shlN _ t (s_l t ht) h
theorem wr_shl1 {t : Nat} (ht : t < 31) : (1 : Int32) <<< (nI t &&& 31) = nI (2 ^ t) := by
  have h := wr_shl (a := 1) (t := t) (by omega) (by rw [Nat.one_mul]; exact Nat.lt_trans (wr_p31 ht) (by decide))
  rw [Nat.one_mul] at h
  exact h
theorem wr_shl2 {t : Nat} (ht : t < 30) : (2 : Int32) <<< (nI t &&& 31) = nI (2 ^ (t + 1)) := by
  have e : 2 * 2 ^ t = 2 ^ (t + 1) := by rw [Nat.pow_succ, Nat.mul_comm]
  have h := wr_shl (a := 2) (t := t) (by omega) (by rw [e]; exact Nat.lt_trans (wr_p31 (by omega)) (by decide))
  rw [e] at h
  exact h
theorem wr_shr {a t : Nat} (ha : a < 2 ^ 31) (ht : t < 32) : nI a >>> (nI t &&& 31) = nI (a / 2 ^ t) := pk_shrN ha _ t (s_l t ht)
theorem wr_and1 {a : Nat} (ha : a < 2 ^ 31) : nI a &&& 1 = nI (a % 2) := pk_andN (by omega) (m := 1) 1 (by decide)
theorem wr_sub1 {a : Nat} (h : 1 ≤ a) : nI a - 1 = nI (a - 1) := pk_sub (b := 1) h
theorem wr_msk {a t : Nat} (ha : a < 2 ^ 31) (ht : t < 31) : nI a &&& (nI (2 ^ t) - 1) = nI (a % 2 ^ t) := by
  have p := Nat.two_pow_pos t
  have q := wr_p31 ht
  rw [wr_sub1 p]
  exact pk_andN (by omega) t (pk_tn (by omega))
theorem wr_256 {N : Nat} (h : N ≤ 7) : 2 ^ (N + 1) ≤ 256 := wr_pw (show N + 1 ≤ 8 by omega)
theorem wr_4 {N : Nat} (h : 1 ≤ N) : 4 ≤ 2 ^ (N + 1) := wr_pw (show 2 ≤ N + 1 by omega)
def wr_X (M o : Nat) (a : Nat → Int32) (G : Nat → Prop) : Prop := ∀ c, 1 ≤ c → c < M → a (o + c) = wr_d (G c)
def wr_Y (o : Nat) (a : Nat → Int32) (G : Nat → Prop) : Prop := ∀ w, w < 255 → a (o + w) = wr_d (G (w + 1))
theorem wr_Xu {M o w : Nat} {a : Nat → Int32} {G G' : Nat → Prop} {q : Prop} (h : wr_X M o a G) (hq : G' w ↔ q) (hG : ∀ c, 1 ≤ c → c < M → c ≠ w → (G' c ↔ G c)) : wr_X M o (upd a (o + w) (wr_d q)) G' := by
  intro c h1 h2
  by_cases e : c = w
  · rw [e, pk_us]
    exact (wr_dc hq).symm
  · rw [pk_un (by omega), h c h1 h2]
    exact (wr_dc (hG c h1 h2 e)).symm
theorem wr_Xk {M o : Nat} {a b : Nat → Int32} {G : Nat → Prop} (h : wr_X M o a G) (hk : ∀ c, 1 ≤ c → c < M → b (o + c) = a (o + c)) : wr_X M o b G := fun c h1 h2 => (hk c h1 h2).trans (h c h1 h2)
theorem wr_Xc {M o : Nat} {a : Nat → Int32} {G G' : Nat → Prop} (h : wr_X M o a G) (hG : ∀ c, 1 ≤ c → c < M → (G' c ↔ G c)) : wr_X M o a G' := fun c h1 h2 => (h c h1 h2).trans (wr_dc (hG c h1 h2)).symm
/-! loops: a search, a count -/
theorem wr_srch (W : Nat → Nat → Prop) (H : Nat → Prop) {p1 p0 : Prop} (i0 e : Nat) (hie : i0 ≤ e) (hp1 : (∃ i, i0 ≤ i ∧ i < e ∧ H i) → p1) (hp0 : (¬ ∃ i, i0 ≤ i ∧ i < e ∧ H i) → p0)
    (hx : p0 → ∀ n, W (n + 1) e) (hs : ∀ n i, i0 ≤ i → i < e → (H i → p1) → (¬ H i → W n (i + 1)) → W (n + 1) i) : W (e - i0 + 1) i0 := by
  have key : ∀ d i, i + d = e → i0 ≤ i → (∀ j, i0 ≤ j → j < i → ¬ H j) → W (d + 1) i := by
    intro d
    induction d with
    | zero =>
      intro i hi h0 hn
      have : i = e := by omega
      subst this
      exact hx (hp0 fun ⟨j, a, b, c⟩ => hn j a b c) 0
    | succ d ih =>
      intro i hi h0 hn
      refine hs _ i h0 (by omega) (fun h => hp1 ⟨i, h0, by omega, h⟩) fun h => ih (i + 1) (by omega) (by omega) fun j a b => ?_
      by_cases e : j = i
      · rw [e]; exact h
      · exact hn j a (by omega)
  exact key (e - i0) i0 (by omega) (Nat.le_refl _) (fun j a b => absurd b (by omega))
theorem wr_cnt (W : Nat → Nat → Nat → Prop) (P : Nat → Prop) (a k : Nat) (hx : ∀ n, W (n + 1) (a + k) (wr_n P a k))
    (hs : ∀ n i s, a ≤ i → i < a + k → s ≤ i - a → W n (i + 1) (s + wr_o (P i)) → W (n + 1) i s) : W (k + 1) a 0 := by
  have key : ∀ d i, i + d = k → W (d + 1) (a + i) (wr_n P a i) := by
    intro d
    induction d with
    | zero =>
      intro i hi
      have : i = k := by omega
      subst this
      exact hx 0
    | succ d ih =>
      intro i hi
      exact hs _ _ _ (by omega) (by omega) (by have := wr_n_le P a i; omega) (ih (i + 1) (by omega))
  exact key k 0 (by omega)
/-! heads, tails and mirror images as Y reckons them (bits = c - 2^l) -/
theorem wr_y1 {c l p : Nat} (h : 2 ^ l ≤ c) (hp : p ≤ l) : 2 ^ p + (c - 2 ^ l) / 2 ^ (l - p) = c / 2 ^ (l - p) := by
  obtain ⟨b, rfl⟩ : ∃ b, c = 2 ^ l + b := ⟨c - 2 ^ l, by omega⟩
  have e : 2 ^ l = 2 ^ (l - p) * 2 ^ p := by rw [← Nat.pow_add, show l - p + p = l by omega]
  rw [Nat.add_sub_cancel_left, e, Nat.mul_add_div (Nat.two_pow_pos _)]
theorem wr_y2 {c l r : Nat} (h : 2 ^ l ≤ c) (hr : r ≤ l) : (c - 2 ^ l) % 2 ^ r = c % 2 ^ r := by
  obtain ⟨b, rfl⟩ : ∃ b, c = 2 ^ l + b := ⟨c - 2 ^ l, by omega⟩
  have e : 2 ^ l = 2 ^ r * 2 ^ (l - r) := by rw [← Nat.pow_add, show r + (l - r) = l by omega]
  rw [Nat.add_sub_cancel_left, e, Nat.mul_add_mod]
theorem wr_y3 {c l i : Nat} (h : 2 ^ l ≤ c) (hi : i < l) : (c - 2 ^ l) / 2 ^ i % 2 = c / 2 ^ i % 2 := by
  obtain ⟨b, rfl⟩ : ∃ b, c = 2 ^ l + b := ⟨c - 2 ^ l, by omega⟩
  have e : 2 ^ l = 2 ^ i * (2 * 2 ^ (l - i - 1)) := by
    rw [← Nat.pow_succ', ← Nat.pow_add, show i + Nat.succ (l - i - 1) = l by omega]
  rw [Nat.add_sub_cancel_left, e, Nat.mul_add_div (Nat.two_pow_pos _), Nat.mul_add_mod]
end
section
/-! 03: X's questions -/
theorem wr_di {p q : Prop} (h : wr_d p = wr_d q) : p ↔ q :=
  ⟨fun a => wr_d1.mp (h.symm.trans (wr_dt a)), fun a => wr_d1.mp (h.trans (wr_dt a))⟩
theorem wr_cb {p A B : Prop} (a : ¬ p → A) (b : p → B) : (wr_d p = 0 → A) ∧ (¬ wr_d p = 0 → B) :=
  ⟨fun h => a (wr_d0.mp h), fun h => b (Classical.byContradiction fun q => h (wr_df q))⟩
theorem wr_n_s (P : Nat → Prop) {i : Nat} (h : 1 ≤ i) : wr_n P 1 i = wr_n P 1 (i - 1) + wr_o (P i) := by
  obtain ⟨j, rfl⟩ : ∃ j, i = j + 1 := ⟨i - 1, by omega⟩
  show wr_n P 1 j + wr_o (P (1 + j)) = wr_n P 1 j + wr_o (P (j + 1))
  rw [Nat.add_comm 1 j]
def wr_bad (N : Nat) (v : Int32) : Prop := v < 0 ∨ (¬ v < 0 ∧ nI N < v)
theorem wr_len {N : Nat} (hN : N ≤ 7) (v : Int32) : wr_bad N v ∨ ∃ l, l ≤ N ∧ v = nI l := by
  by_cases h0 : v < 0
  · exact Or.inl (Or.inl h0)
  · obtain ⟨j, hj, rfl⟩ := nI_of h0
    by_cases h : j ≤ N
    · exact Or.inr ⟨j, h, rfl⟩
    · exact Or.inl (Or.inr ⟨h0, nI_lt (by omega) hj⟩)
def wr_bad2 (N : Nat) (v w : Int32) : Prop := wr_bad N v ∨ ∃ l, l ≤ N ∧ v = nI l ∧ (w < 0 ∨ (¬ w < 0 ∧ nI (2 ^ l) ≤ w))
theorem wr_val {N : Nat} (hN : N ≤ 7) (v w : Int32) : wr_bad2 N v w ∨ ∃ l b, l ≤ N ∧ b < 2 ^ l ∧ v = nI l ∧ w = nI b := by
  rcases wr_len hN v with h | ⟨l, hl, e⟩
  · exact Or.inl (Or.inl h)
  · by_cases h0 : w < 0
    · exact Or.inl (Or.inr ⟨l, hl, e, Or.inl h0⟩)
    · obtain ⟨j, hj, rfl⟩ := nI_of h0
      by_cases h : j < 2 ^ l
      · exact Or.inr ⟨l, j, hl, h, e, rfl⟩
      · exact Or.inl (Or.inr ⟨l, hl, e, Or.inr ⟨h0, nI_le (by omega) hj⟩⟩)
section
variable {N D T : Nat} {st le sl : Nat → Int32} {S : Nat → Nat → Prop} {post : Int32 → Prop}
theorem wx_picked1 (hN : N ≤ 7) (hS : ∀ i, i < 3 → wr_X (2 ^ (N + 1)) (i * 256) sl (S i)) {c : Nat} (h1 : 1 ≤ c) (h2 : c < 2 ^ (N + 1)) {j x y n : Nat} (hj : j < 3) (hy : y = x + 2 ^ j * wr_o (S j c))
    (h : wX_isPicked_4 post (nI c) (nI N) (nI D) (nI T) st le sl n (nI y) (nI (j + 1))) : wX_isPicked_4 post (nI c) (nI N) (nI D) (nI T) st le sl (n + 1) (nI x) (nI j) := by
  have hM := wr_256 hN
  have e : nI j * 256 + nI c = nI (j * 256 + c) := by
    rw [← nI_add, ← pk_mul]
    rfl
  have e2 : sl (nI j * 256 + nI c).toNatClampNeg = wr_d (S j c) := by
    rw [e, nI_clamp (by omega)]
    exact hS j hj c h1 h2
  have e3 : vp_in (nI j * 256 + nI c) 768 := by
    rw [e]
    exact vp_in_nI (by omega) (by decide)
  subst hy
  refine br_f (nI_ge (b := 3) hj (by decide)) ⟨e3, ?_⟩
  rw [e2]
  refine wr_cb (fun q => nm_r (nI_1 j) ?_) (fun q => nm_r (e' := nI (x + 2 ^ j * wr_o (S j c))) ?_ (nm_r (nI_1 j) h))
  · rw [wr_of q, Nat.mul_zero, Nat.add_zero] at h
    exact h
  · rw [wr_ot q, Nat.mul_one, wr_shl1 (by omega), nI_add]
theorem wx_picked (hN : N ≤ 7) (hT : T ≤ 255) (hS : ∀ i, i < 3 → wr_X (2 ^ (N + 1)) (i * 256) sl (S i)) {c : Nat} (h1 : 1 ≤ c) (h2 : c < 2 ^ (N + 1)) (hp : post (wr_d (wr_Ch S T c))) : wpX_isPicked post (nI N, nI D, nI T, st, le, sl) (nI c) := by
  have hi := wr_i8 S c
  have k3 : wX_isPicked_4 post (nI c) (nI N) (nI D) (nI T) st le sl 1 (nI (wr_i S c)) (nI 3) := by
    refine br_t (nI_le (a := 3) (b := 3) (Nat.le_refl 3) (by decide)) ?_
    rw [wr_shr (by omega) (by omega), wr_and1 (Nat.lt_of_le_of_lt (Nat.div_le_self _ _) (by omega))]
    by_cases q : wr_Ch S T c
    · rw [wr_dt q] at hp
      exact br_t (congrArg nI q) hp
    · rw [wr_df q] at hp
      exact br_f (fun e => q ((nI_eq (b := 1) (Nat.lt_trans (Nat.mod_lt _ (by decide)) (by decide : 2 < 2 ^ 31)) (by decide)).mp e)) hp
  have k2 : wX_isPicked_4 post (nI c) (nI N) (nI D) (nI T) st le sl 2 (nI (wr_o (S 0 c) + 2 * wr_o (S 1 c))) (nI 2) := wx_picked1 hN hS h1 h2 (by decide) (by unfold wr_i; omega) k3
  have k1 : wX_isPicked_4 post (nI c) (nI N) (nI D) (nI T) st le sl 3 (nI (wr_o (S 0 c))) (nI 1) := wx_picked1 hN hS h1 h2 (by decide) (by omega) k2
  have k0 : wX_isPicked_4 post (nI c) (nI N) (nI D) (nI T) st le sl 4 (nI 0) (nI 0) := wx_picked1 hN hS h1 h2 (by decide) (by omega) k1
  exact Exists.intro 4 k0
theorem wx_count5 (hN : N ≤ 7) (hT : T ≤ 255) (hS : ∀ i, i < 3 → wr_X (2 ^ (N + 1)) (i * 256) sl (S i)) {a e : Nat} (h1 : 1 ≤ a) (h2 : a ≤ e) (h3 : e ≤ 2 ^ (N + 1)) (hp : post (nI (wr_n (wr_Ch S T) a (e - a)))) : wpX_countChosen post (nI N, nI D, nI T, st, le, sl) (nI a) (nI e) := by
  have hM := wr_256 hN
  show ∃ n, wX_countChosen_5 post (nI e) (nI N) (nI D) (nI T) st le sl n 0 (nI a)
  refine ⟨_, wr_cnt (fun n i s => wX_countChosen_5 post (nI e) (nI N) (nI D) (nI T) st le sl n (nI s) (nI i)) (wr_Ch S T) a (e - a) (fun n => ?_) (fun n i s h4 h5 h6 hk => ?_)⟩
  · rw [show a + (e - a) = e by omega]
    exact br_t (nI_le (Nat.le_refl e) (by omega)) hp
  · refine br_f (nI_ge (by omega) (by omega)) (wx_picked hN hT hS (by omega) (by omega) (wr_cb (fun q => nm_r (nI_1 i) ?_) (fun q => nm_r (nI_1 s) (nm_r (nI_1 i) ?_))))
    · rw [wr_of q] at hk
      exact hk
    · rw [wr_ot q] at hk
      exact hk
theorem wx_len0 {v : Int32} (h : wr_bad N v) (hp : post 0) : wpX_isLength post (nI N, nI D, nI T, st, le, sl) v := h.elim (fun h => br_t h hp) fun h => br_f h.1 (br_t h.2 hp)
theorem wx_len1 (hN : N ≤ 7) {l : Nat} (hl : l ≤ N) (hp : post 1) : wpX_isLength post (nI N, nI D, nI T, st, le, sl) (nI l) := br_f (nI_pos (by omega)) (br_f (nI_nlt hl (by omega)) hp)
theorem wx_countB {v : Int32} (h : wr_bad N v) (hp : post (-1)) : wpX_count post (nI N, nI D, nI T, st, le, sl) v := by
  unfold wpX_count
  dsimp only
  exact wx_len0 h (br_t rfl hp)
theorem wx_countG (hN : N ≤ 7) (hT : T ≤ 255) (hS : ∀ i, i < 3 → wr_X (2 ^ (N + 1)) (i * 256) sl (S i)) {l : Nat} (hl : l ≤ N) (hp : post (nI (wr_n (wr_Ch S T) (2 ^ l) (2 ^ l)))) : wpX_count post (nI N, nI D, nI T, st, le, sl) (nI l) := by
  unfold wpX_count
  dsimp only
  have p := Nat.two_pow_pos l
  have q := wr_pw (show l + 1 ≤ N + 1 by omega)
  have e : 2 ^ (l + 1) = 2 ^ l * 2 := Nat.pow_succ ..
  refine wx_len1 hN hl (br_f (by decide) ?_)
  rw [wr_shl1 (by omega), wr_shl2 (by omega)]
  refine wx_count5 hN hT hS p (by omega) q ?_
  rw [show 2 ^ (l + 1) - 2 ^ l = 2 ^ l by omega]
  exact hp
theorem wx_total (hN : N ≤ 7) (hT : T ≤ 255) (hS : ∀ i, i < 3 → wr_X (2 ^ (N + 1)) (i * 256) sl (S i)) (hp : post (nI (wr_n (wr_Ch S T) 1 (2 ^ (N + 1) - 1)))) : wpX_total post (nI N, nI D, nI T, st, le, sl) := by
  unfold wpX_total
  dsimp only
  rw [wr_shl2 (by omega)]
  exact wx_count5 (a := 1) hN hT hS (Nat.le_refl 1) (Nat.two_pow_pos _) (Nat.le_refl _) hp
theorem wx_val0 (hN : N ≤ 7) {v w : Int32} (h : wr_bad2 N v w) (hp : post 0) : wpX_isValid post (nI N, nI D, nI T, st, le, sl) v w := by
  unfold wpX_isValid
  dsimp only
  rcases h with h | ⟨l, hl, rfl, h⟩
  · exact wx_len0 h (br_t rfl hp)
  · refine wx_len1 hN hl (br_f (by decide) ?_)
    rw [wr_shl1 (by omega)]
    exact h.elim (fun h => br_t h hp) fun h => br_f h.1 (br_t h.2 hp)
theorem wx_val1 (hN : N ≤ 7) {l b : Nat} (hl : l ≤ N) (hb : b < 2 ^ l) (hp : post 1) : wpX_isValid post (nI N, nI D, nI T, st, le, sl) (nI l) (nI b) := by
  unfold wpX_isValid
  dsimp only
  have q := wr_pw (show l ≤ 7 by omega)
  refine wx_len1 hN hl (br_f (by decide) ?_)
  rw [wr_shl1 (by omega)]
  exact br_f (nI_pos (by omega)) (br_f (nI_ge hb (by omega)) hp)
theorem wx_isChosenB (hN : N ≤ 7) {v w : Int32} (h : wr_bad2 N v w) (hp : post (-1)) : wpX_isChosen post (nI N, nI D, nI T, st, le, sl) v w := by
  unfold wpX_isChosen
  dsimp only
  exact wx_val0 hN h (br_t rfl hp)
theorem wr_lb {N l b : Nat} (hl : l ≤ N) (hb : b < 2 ^ l) : 1 ≤ 2 ^ l + b ∧ 2 ^ l + b < 2 ^ (l + 1) ∧ 2 ^ l + b < 2 ^ (N + 1) := by
  have p := Nat.two_pow_pos l
  have q := wr_pw (show l + 1 ≤ N + 1 by omega)
  have e : 2 ^ (l + 1) = 2 ^ l * 2 := Nat.pow_succ ..
  omega
theorem wx_isChosenG (hN : N ≤ 7) (hT : T ≤ 255) (hS : ∀ i, i < 3 → wr_X (2 ^ (N + 1)) (i * 256) sl (S i)) {l b : Nat} (hl : l ≤ N) (hb : b < 2 ^ l) (hp : post (wr_d (wr_Ch S T (2 ^ l + b)))) : wpX_isChosen post (nI N, nI D, nI T, st, le, sl) (nI l) (nI b) := by
  unfold wpX_isChosen
  dsimp only
  have q := wr_lb hl hb
  refine wx_val1 hN hl hb (br_f (by decide) ?_)
  rw [wr_shl1 (by omega), nI_add]
  refine wx_picked hN hT hS q.1 q.2.2 (wr_cb (fun z => ?_) (fun z => ?_))
  · rw [wr_df z] at hp
    exact hp
  · rw [wr_dt z] at hp
    exact hp
theorem wx_rankB (hN : N ≤ 7) {v w : Int32} (h : wr_bad2 N v w) (hp : post (-1)) : wpX_rank post (nI N, nI D, nI T, st, le, sl) v w := by
  unfold wpX_rank
  dsimp only
  exact wx_val0 hN h (br_t rfl hp)
theorem wx_rankG (hN : N ≤ 7) (hT : T ≤ 255) (hS : ∀ i, i < 3 → wr_X (2 ^ (N + 1)) (i * 256) sl (S i)) {l b : Nat} (hl : l ≤ N) (hb : b < 2 ^ l) (hp : post (nI (wr_n (wr_Ch S T) 1 (2 ^ l + b - 1)))) : wpX_rank post (nI N, nI D, nI T, st, le, sl) (nI l) (nI b) := by
  unfold wpX_rank
  dsimp only
  have q := wr_lb hl hb
  refine wx_val1 hN hl hb (br_f (by decide) ?_)
  rw [wr_shl1 (by omega), nI_add]
  exact wx_count5 (a := 1) hN hT hS (Nat.le_refl 1) q.1 (Nat.le_of_lt q.2.2) hp
theorem wx_find (hN : N ≤ 7) (hT : T ≤ 255) (hS : ∀ i, i < 3 → wr_X (2 ^ (N + 1)) (i * 256) sl (S i)) {k : Int32} (hp : ∀ r, wr_F (2 ^ (N + 1)) (wr_Ch S T) k r → post (nI r)) : wpX_findChosen post (nI N, nI D, nI T, st, le, sl) k := by
  have hM := wr_256 hN
  have key : ∀ d i, 1 ≤ i → i + d = 2 ^ (N + 1) → (∀ c, 1 ≤ c → c < i → wr_Ch S T c → nI (wr_n (wr_Ch S T) 1 (c - 1)) ≠ k) → wX_findChosen_4 post k (nI N) (nI D) (nI T) st le sl (d + 1) (nI (wr_n (wr_Ch S T) 1 (i - 1))) (nI i) := by
    intro d
    induction d with
    | zero =>
      intro i h1 hi hn
      refine br_t ?_ (hp 0 (Or.inl ⟨rfl, fun c a b => hn c a (by omega)⟩))
      rw [wr_shl2 (by omega)]
      exact nI_le (by omega) (by omega)
    | succ d ih =>
      intro i h1 hi hn
      have hs := wr_n_s (wr_Ch S T) h1
      refine br_f ?_ (wx_picked hN hT hS h1 (by omega) (wr_cb (fun q => nm_r (nI_1 i) ?_) (fun q => br_c (fun e => hp i (Or.inr ⟨h1, by omega, q, e⟩)) (fun e => nm_r (nI_1 _) (nm_r (nI_1 i) ?_)))))
      · rw [wr_shl2 (by omega)]
        exact nI_ge (by omega) (by omega)
      · have g := ih (i + 1) (by omega) (by omega) (fun c a b z => if e : c = i then absurd (e ▸ z) q else hn c a (by omega) z)
        rw [Nat.add_sub_cancel, hs, wr_of q] at g
        exact g
      · have g := ih (i + 1) (by omega) (by omega) (fun c a b z => if e' : c = i then (by rw [e']; exact e) else hn c a (by omega) z)
        rw [Nat.add_sub_cancel, hs, wr_ot q] at g
        exact g
  exact Exists.intro _ (key (2 ^ (N + 1) - 1) 1 (Nat.le_refl 1) (by have := Nat.two_pow_pos (N + 1); omega) (fun c a b => absurd b (by omega)))
theorem wx_lengthOf {c : Nat} (h1 : 1 ≤ c) (h2 : c < 256) (hp : post (nI (Nat.log2 c))) : wpX_lengthOf post (nI c) := by
  have hl := wr_lgN (N := 7) h1 h2
  have key : ∀ d i x, 1 ≤ i → i + d = 8 → ((Nat.log2 c < i ∧ x = Nat.log2 c) ∨ (i ≤ Nat.log2 c ∧ x = i - 1)) → wX_lengthOf_4 post (nI c) (d + 1) (nI x) (nI i) := by
    intro d
    induction d with
    | zero =>
      intro i x h3 hi hx
      have e1 : i = 8 := by omega
      have e2 : x = Nat.log2 c := by omega
      subst e1 e2
      exact br_t (nI_lt (a := 7) (b := 8) (by decide) (by decide)) hp
    | succ d ih =>
      intro i x h3 hi hx
      have hb := Nat.log2_lt (n := c) (k := i) (by omega)
      have hq := wr_p31 (show i < 31 by omega)
      refine br_f (nI_nlt (a := 7) (by omega) (by decide)) ?_
      rw [wr_shl1 (by omega)]
      refine br_c (fun z => nm_r (nI_1 i) ?_) (fun z => nm_r (nI_1 i) ?_)
      · have w := hb.mpr ((nI_ltI (by omega) hq).mp z)
        exact ih (i + 1) x (by omega) (by omega) (by omega)
      · have w : ¬ Nat.log2 c < i := fun y => z ((nI_ltI (by omega) hq).mpr (hb.mp y))
        exact ih (i + 1) i (by omega) (by omega) (by omega)
  exact Exists.intro _ (key 7 1 0 (Nat.le_refl 1) rfl (by omega))
theorem wx_wordLen (hN : N ≤ 7) (hT : T ≤ 255) (hS : ∀ i, i < 3 → wr_X (2 ^ (N + 1)) (i * 256) sl (S i)) {k : Int32} (h0 : wr_F (2 ^ (N + 1)) (wr_Ch S T) k 0 → post (-1)) (h1 : ∀ r, 1 ≤ r → r < 256 → wr_F (2 ^ (N + 1)) (wr_Ch S T) k r → post (nI (Nat.log2 r))) : wpX_wordLen post (nI N, nI D, nI T, st, le, sl) k := by
  unfold wpX_wordLen
  dsimp only
  have hM := wr_256 hN
  refine wx_find hN hT hS fun r hr => ?_
  by_cases e : r = 0
  · subst e
    exact br_t rfl (h0 hr)
  · have hb : r < 256 := by
      rcases hr with h | h
      · omega
      · have := h.2.1
        omega
    exact br_f (nI_ne0 (by omega) (by omega)) (wx_lengthOf (by omega) hb (h1 r (by omega) hb hr))
theorem wx_wordBits (hN : N ≤ 7) (hT : T ≤ 255) (hS : ∀ i, i < 3 → wr_X (2 ^ (N + 1)) (i * 256) sl (S i)) {k : Int32} (h0 : wr_F (2 ^ (N + 1)) (wr_Ch S T) k 0 → post (-1)) (h1 : ∀ r, 1 ≤ r → r < 256 → wr_F (2 ^ (N + 1)) (wr_Ch S T) k r → post (nI (r - 2 ^ Nat.log2 r))) : wpX_wordBits post (nI N, nI D, nI T, st, le, sl) k := by
  unfold wpX_wordBits
  dsimp only
  have hM := wr_256 hN
  refine wx_find hN hT hS fun r hr => ?_
  by_cases e : r = 0
  · subst e
    exact br_t rfl (h0 hr)
  · have hb : r < 256 := by
      rcases hr with h | h
      · omega
      · have := h.2.1
        omega
    have hl := wr_lgN (N := 7) (show 1 ≤ r by omega) hb
    refine br_f (nI_ne0 (by omega) (by omega)) (wx_lengthOf (by omega) hb ?_)
    rw [wr_shl1 (by omega), pk_sub (wr_lg1 (by omega))]
    exact h1 r (by omega) hb hr
theorem wx_countFromB (hN : N ≤ 7) {v w : Int32} (h : wr_bad2 N v w) (hp : post (-1)) : wpX_countFrom post (nI N, nI D, nI T, st, le, sl) v w := by
  unfold wpX_countFrom
  dsimp only
  exact wx_val0 hN h (br_t rfl hp)
theorem wx_countFromG (hN : N ≤ 7) (hT : T ≤ 255) (hS : ∀ i, i < 3 → wr_X (2 ^ (N + 1)) (i * 256) sl (S i)) {l b : Nat} (hl : l ≤ N) (hb : b < 2 ^ l) (hp : post (nI (wr_S (wr_Ch S T) (2 ^ l + b) (N - l + 1)))) : wpX_countFrom post (nI N, nI D, nI T, st, le, sl) (nI l) (nI b) := by
  unfold wpX_countFrom
  dsimp only
  have hM := wr_256 hN
  have q := wr_lb hl hb
  refine wx_val1 hN hl hb (br_f (by decide) (nm_r (e' := nI (2 ^ l + b)) ?_ ?_))
  · rw [wr_shl1 (by omega), nI_add]
  generalize hw : 2 ^ l + b = w at hp q ⊢
  have key : ∀ d i, i + d = N - l + 1 → wX_countFrom_23 post (nI l) (nI w) (nI N) (nI D) (nI T) st le sl (d + 1) (nI (wr_S (wr_Ch S T) w i)) (nI i) := by
    intro d
    induction d with
    | zero =>
      intro i hi
      have e : i = N - l + 1 := by omega
      subst e
      refine br_t ?_ hp
      rw [pk_sub hl]
      exact nI_lt (by omega) (by omega)
    | succ d ih =>
      intro i hi
      have p := Nat.two_pow_pos i
      have a1 : (w + 1) * 2 ^ i ≤ 2 ^ (l + 1) * 2 ^ i := Nat.mul_le_mul_right _ q.2.1
      rw [← Nat.pow_add] at a1
      have a2 := wr_pw (show l + 1 + i ≤ N + 1 by omega)
      have a3 : (w + 1) * 2 ^ i = w * 2 ^ i + 2 ^ i := by rw [Nat.add_mul, Nat.one_mul]
      have a4 : 1 * 1 ≤ w * 2 ^ i := Nat.mul_le_mul q.1 p
      refine br_f ?_ ?_
      · rw [pk_sub hl]
        exact nI_nlt (by omega) (by omega)
      · rw [nI_1 w, wr_shl (by omega) (by omega), wr_shl (by omega) (by omega)]
        refine wx_count5 hN hT hS (by omega) (by omega) (by omega) (nm_r (nI_add _ _) (nm_r (nI_1 i) ?_))
        rw [show (w + 1) * 2 ^ i - w * 2 ^ i = 2 ^ i by omega]
        exact ih (i + 1) (by omega)
  exact ⟨_, key (N - l + 1) 0 (by omega)⟩
theorem wr_wb {N l e m z r : Nat} (h1 : 2 ^ l ≤ e) (h2 : e < 2 ^ (l + 1)) (hr : l + r ≤ N) (hm : m ≤ r) (hz : z < 2 ^ m) : 1 ≤ e * 2 ^ m + z ∧ e * 2 ^ m + z < 2 ^ (N + 1) := by
  have p := Nat.two_pow_pos m
  have p2 := Nat.two_pow_pos l
  have a1 : (e + 1) * 2 ^ m ≤ 2 ^ (l + 1) * 2 ^ m := Nat.mul_le_mul_right _ h2
  rw [← Nat.pow_add] at a1
  have a2 := wr_pw (show l + 1 + m ≤ N + 1 by omega)
  have a3 : (e + 1) * 2 ^ m = e * 2 ^ m + 2 ^ m := by rw [Nat.add_mul, Nat.one_mul]
  have a4 : 1 * 1 ≤ e * 2 ^ m := Nat.mul_le_mul (by omega) p
  omega
theorem wx_alike (hN : N ≤ 7) (hT : T ≤ 255) (hS : ∀ i, i < 3 → wr_X (2 ^ (N + 1)) (i * 256) sl (S i)) {l r e c : Nat} (hr : l + r ≤ N) (h1 : 2 ^ l ≤ e) (h2 : e < 2 ^ (l + 1)) (h3 : 2 ^ l ≤ c) (h4 : c < 2 ^ (l + 1)) (hp : post (wr_d (wr_A (wr_Ch S T) r e c))) : wpX_areAlike post (nI N, nI D, nI T, st, le, sl) (nI e) (nI c) (nI r) := by
  have hM := wr_256 hN
  show ∃ n, wX_areAlike_3 post (nI e) (nI c) (nI r) (nI N) (nI D) (nI T) st le sl n 0
  refine ⟨_, wr_srch (fun n i => wX_areAlike_3 post (nI e) (nI c) (nI r) (nI N) (nI D) (nI T) st le sl n (nI i)) (fun m => ∃ z, 0 ≤ z ∧ z < 2 ^ m ∧ ¬ (wr_Ch S T (e * 2 ^ m + z) ↔ wr_Ch S T (c * 2 ^ m + z))) (p1 := post 0) (p0 := post 1) 0 (r + 1) (by omega) ?_ ?_ ?_ ?_⟩
  · intro ⟨m, _, hm, z, _, hz, q⟩
    rw [wr_df (fun h => q (h m (by omega) z hz))] at hp
    exact hp
  · intro h
    rw [wr_dt (p := wr_A (wr_Ch S T) r e c) (fun m hm z hz => Classical.byContradiction fun q => h ⟨m, Nat.zero_le _, by omega, z, Nat.zero_le _, hz, q⟩)] at hp
    exact hp
  · exact fun h n => br_t (nI_lt (Nat.lt_succ_self r) (by omega)) h
  · intro n m _ hm k1 k2
    have hq := wr_p31 (show m < 31 by omega)
    refine br_f (nI_nlt (by omega) (by omega)) ⟨_, wr_srch (fun n' z => wX_areAlike_12 post (wX_areAlike_3 post (nI e) (nI c) (nI r) (nI N) (nI D) (nI T) st le sl n) (nI e) (nI c) (nI r) (nI m) (nI N) (nI D) (nI T) st le sl n' (nI z)) (fun z => ¬ (wr_Ch S T (e * 2 ^ m + z) ↔ wr_Ch S T (c * 2 ^ m + z))) (p1 := post 0) (p0 := wX_areAlike_3 post (nI e) (nI c) (nI r) (nI N) (nI D) (nI T) st le sl n (nI (m + 1))) 0 (2 ^ m) (Nat.zero_le _) k1 k2 ?_ ?_⟩
    · intro h n'
      refine br_t ?_ (nm_r (nI_1 m) h)
      rw [wr_shl1 (by omega)]
      exact nI_le (Nat.le_refl _) hq
    · intro n' z _ hz j1 j2
      have b1 := wr_wb h1 h2 hr (show m ≤ r by omega) hz
      have b2 := wr_wb h3 h4 hr (show m ≤ r by omega) hz
      refine br_f ?_ ?_
      · rw [wr_shl1 (by omega)]
        exact nI_ge hz hq
      · rw [wr_shl (by omega) (by omega), wr_shl (by omega) (by omega), nI_add, nI_add]
        exact wx_picked hN hT hS b1.1 b1.2 (wx_picked hN hT hS b2.1 b2.2 (br_c (fun h => nm_r (nI_1 z) (j2 (fun q => q (wr_di h)))) (fun h => j1 (fun q => h (wr_dc q)))))
theorem wx_first (hN : N ≤ 7) (hT : T ≤ 255) (hS : ∀ i, i < 3 → wr_X (2 ^ (N + 1)) (i * 256) sl (S i)) {l c : Nat} (hl : l ≤ N) (h3 : 2 ^ l ≤ c) (h4 : c < 2 ^ (l + 1)) (hp : post (wr_d (wr_G (wr_Ch S T) l (N - l) c))) : wpX_isFirstOfItsGroup post (nI N, nI D, nI T, st, le, sl) (nI c) (nI l) := by
  have hM := wr_256 hN
  have hq := wr_pw (show l + 1 ≤ N + 1 by omega)
  unfold wpX_isFirstOfItsGroup
  dsimp only
  refine nm_r (wr_shl1 (by omega)) ⟨_, wr_srch (fun n i => wX_isFirstOfItsGroup_4 post (nI c) (nI l) (nI N) (nI D) (nI T) st le sl n (nI i)) (fun e => wr_A (wr_Ch S T) (N - l) e c) (p1 := post 0) (p0 := post 1) (2 ^ l) c h3 ?_ ?_ ?_ ?_⟩
  · intro h
    rw [wr_df (fun g => g h)] at hp
    exact hp
  · intro h
    rw [wr_dt (p := wr_G (wr_Ch S T) l (N - l) c) h] at hp
    exact hp
  · exact fun h n => br_t (nI_le (Nat.le_refl c) (by omega)) h
  · intro n e h1 h2 k1 k2
    refine br_f (nI_ge h2 (by omega)) ?_
    rw [pk_sub hl]
    exact wx_alike hN hT hS (by omega) h1 (by omega) h3 h4 (wr_cb (fun q => nm_r (nI_1 e) (k2 q)) k1)
theorem wx_groupsB {v : Int32} (h : wr_bad N v) (hp : post (-1)) : wpX_groups post (nI N, nI D, nI T, st, le, sl) v := by
  unfold wpX_groups
  dsimp only
  exact wx_len0 h (br_t rfl hp)
theorem wx_groupsG (hN : N ≤ 7) (hT : T ≤ 255) (hS : ∀ i, i < 3 → wr_X (2 ^ (N + 1)) (i * 256) sl (S i)) {l : Nat} (hl : l ≤ N) (hp : post (nI (wr_n (wr_G (wr_Ch S T) l (N - l)) (2 ^ l) (2 ^ l)))) : wpX_groups post (nI N, nI D, nI T, st, le, sl) (nI l) := by
  have hM := wr_256 hN
  have hq := wr_pw (show l + 1 ≤ N + 1 by omega)
  have e : 2 ^ (l + 1) = 2 ^ l * 2 := Nat.pow_succ ..
  unfold wpX_groups
  dsimp only
  refine wx_len1 hN hl (br_f (by decide) (nm_r (wr_shl1 (by omega)) ⟨_, wr_cnt (fun n i s => wX_groups_16 post (nI l) (nI N) (nI D) (nI T) st le sl n (nI s) (nI i)) (wr_G (wr_Ch S T) l (N - l)) (2 ^ l) (2 ^ l) (fun n => ?_) (fun n i s h4 h5 h6 hk => ?_)⟩))
  · refine br_t ?_ hp
    rw [wr_shl2 (by omega)]
    exact nI_le (by omega) (by omega)
  · refine br_f ?_ (wx_first hN hT hS hl h4 (by omega) (wr_cb (fun q => nm_r (nI_1 i) ?_) (fun q => nm_r (nI_1 s) (nm_r (nI_1 i) ?_))))
    · rw [wr_shl2 (by omega)]
      exact nI_ge (by omega) (by omega)
    · rw [wr_of q] at hk
      exact hk
    · rw [wr_ot q] at hk
      exact hk
end
end
section
/-! 04: X's makers: what they leave in the cells -/
theorem wr_ix {o w n : Nat} (h : o + w < n) (hn : n < 2 ^ 31) : vp_in (nI o + nI w) n ∧ (nI o + nI w).toNatClampNeg = o + w := by
  rw [nI_add]
  exact ⟨vp_in_nI h hn, nI_clamp (by omega)⟩
theorem wr_v0 : vp_nar .boolean 0 = 0 := by first | rfl | decide
theorem wr_v1 : vp_nar .boolean 1 = 1 := by first | rfl | decide
def wr_fr (o : Nat) (st a : Nat → Int32) : Prop := (∀ j, j < o → a j = st j) ∧ (∀ j, o + 256 ≤ j → a j = st j)
theorem wr_fr0 {o : Nat} {st : Nat → Int32} : wr_fr o st st := ⟨fun _ _ => rfl, fun _ _ => rfl⟩
theorem wr_fru {o w : Nat} {st a : Nat → Int32} {v : Int32} (h : wr_fr o st a) (hw : w < 256) : wr_fr o st (upd a (o + w) v) :=
  ⟨fun j hj => (pk_un (by omega)).trans (h.1 j hj), fun j hj => (pk_un (by omega)).trans (h.2 j hj)⟩
def wr_mix (R G A : Nat → Prop) (c : Nat) : Prop := (R c ∧ G c) ∨ (¬ R c ∧ A c)
theorem wr_mt1 {R G A : Nat → Prop} {c : Nat} (h : R c) : wr_mix R G A c ↔ G c :=
  ⟨fun z => z.elim (fun y => y.2) (fun y => absurd h y.1), fun z => Or.inl ⟨h, z⟩⟩
theorem wr_mf {R G A : Nat → Prop} {c : Nat} (h : ¬ R c) : wr_mix R G A c ↔ A c :=
  ⟨fun z => z.elim (fun y => absurd y.1 h) (fun y => y.2), fun z => Or.inr ⟨h, z⟩⟩
theorem wr_mr {R Q G A : Nat → Prop} {c : Nat} (h : R c ↔ Q c) : wr_mix R G A c ↔ wr_mix Q G A c := by
  unfold wr_mix
  rw [h]
theorem wr_mxu {M o w : Nat} {a : Nat → Int32} {R Q G A : Nat → Prop} {q : Prop} (h : wr_X M o a (wr_mix R G A)) (hq : G w ↔ q) (hw : Q w) (hR : ∀ c, c ≠ w → (Q c ↔ R c)) : wr_X M o (upd a (o + w) (wr_d q)) (wr_mix Q G A) :=
  wr_Xu h ((wr_mt1 hw).trans hq) (fun c _ _ e => wr_mr (hR c e))
section
variable {N D T : Nat} {st le sl : Nat → Int32} {L : Nat → Nat} {A S : Nat → Nat → Prop}
theorem wx_letters {post : Int32 → Prop} (hD : D ≤ 8) (hL : ∀ i, i < D → le i = nI (L i)) (hp : post (nI (wr_s L D))) : wpX_letters post (nI N, nI D, nI T, st, le, sl) := by
  have key : ∀ d i, i + d = D → wX_letters_4 post (nI N) (nI D) (nI T) st le sl (d + 1) (nI (wr_s L i)) (nI i) := by
    intro d
    induction d with
    | zero =>
      intro i hi
      have e : i = D := by omega
      subst e
      exact br_t (nI_le (Nat.le_refl _) (by omega)) hp
    | succ d ih =>
      intro i hi
      refine br_f (nI_ge (by omega) (by omega)) ⟨vp_in_nI (by omega) (by decide), nm_r ?_ (nm_r (nI_1 i) (ih (i + 1) (by omega)))⟩
      rw [nI_clamp (by omega), hL i (by omega), nI_add]
      rfl
  exact Exists.intro _ (key D 0 (by omega))
theorem wx_top {post : Int32 → Prop} (hD : 1 ≤ D) (hp : post (nI ((D - 1) * 256))) : wpX_topStart post (nI N, nI D, nI T, st, le, sl) := by
  show post ((nI D - 1) * nI 256)
  rw [wr_sub1 hD, pk_mul]
  exact hp
theorem wx_push {post : SX → Prop} (hN : N ≤ 7) (hD : D < 8) (hp : ∀ a, wr_X (2 ^ (N + 1)) (D * 256) a (fun _ => False) → (∀ j, j < D * 256 → a j = st j) → post (nI N, nI (D + 1), nI T, a, upd le D 0, sl)) : wpX_pushNoWord post (nI N, nI D, nI T, st, le, sl) := by
  have hM := wr_256 hN
  unfold wpX_pushNoWord
  dsimp only
  refine ⟨vp_in_nI hD (by decide), nm_r (e' := upd le D 0) (by rw [nI_clamp (by omega)]) (nm_r (nI_1 D) (wx_top (D := D + 1) (by omega) ?_))⟩
  rw [Nat.add_sub_cancel]
  refine pk_loop (fun n i a => wX_pushNoWord_27 post (nI (D * 256)) (nI N) (nI (D + 1)) (nI T) n (nI i) a (upd le D 0) sl) (fun i a => (∀ c, 1 ≤ c → c < i → a (D * 256 + c) = 0) ∧ ∀ j, j < D * 256 → a j = st j) (2 ^ (N + 1)) 1 st (Nat.two_pow_pos _) ⟨fun c a b => absurd b (by omega), fun _ _ => rfl⟩ ?_ ?_
  · intro n a ⟨h1, h2⟩
    refine br_t ?_ (hp a (fun c h3 h4 => (h1 c h3 h4).trans wr_Fa.symm) h2)
    rw [wr_shl2 (by omega)]
    exact nI_le (Nat.le_refl _) (by omega)
  · intro n i a hi ⟨h1, h2⟩ hk
    have hx := wr_ix (o := D * 256) (w := i) (n := 2048) (by omega) (by decide)
    refine br_f ?_ ⟨hx.1, nm_r (e' := upd a (D * 256 + i) 0) (by rw [hx.2, wr_v0]) (nm_r (nI_1 i) (hk _ ⟨?_, ?_⟩))⟩
    · rw [wr_shl2 (by omega)]
      exact nI_ge hi (by omega)
    · intro c h3 h4
      by_cases e : c = i
      · rw [e, pk_us]
      · rw [pk_un (by omega)]
        exact h1 c h3 (by omega)
    · exact fun j hj => (pk_un (by omega)).trans (h2 j hj)
def wr_Le (j c : Nat) : Prop := (c = 2 ∧ j ≠ 1) ∨ (c = 3 ∧ j ≠ 0)
theorem wx_l75 {post : Int32 → SX → Prop} (hD : D < 8) {q : Prop} (hp : post (nI (D + 1)) (nI N, nI (D + 1), nI T, upd st (D * 256 + 3) (wr_d q), upd le D 1, sl)) : wX_letter_75 post (wr_d q) (nI (D * 256) + 3) (nI N) (nI (D + 1)) (nI T) st le sl := by
  have hx := wr_ix (o := D * 256) (w := 3) (n := 2048) (by omega) (by decide)
  have hy : (nI (D + 1) - 1).toNatClampNeg = D := by rw [nI_pred, nI_clamp (by omega)]
  refine ⟨hx.1, nm_r (e' := upd st (D * 256 + 3) (wr_d q)) ?_ ⟨?_, nm_r (e' := upd le D 1) (by rw [hy]) hp⟩⟩
  · rw [wr_dv]
    exact congrArg (fun z => upd st z (wr_d q)) hx.2
  · rw [nI_pred]
    exact vp_in_nI hD (by decide)
theorem wx_l58 {post : Int32 → SX → Prop} (hD : D < 8) {j : Nat} (hj : j < 3) {q : Prop} (hp : post (nI (D + 1)) (nI N, nI (D + 1), nI T, upd (upd st (D * 256 + 2) (wr_d q)) (D * 256 + 3) (wr_d (j ≠ 0)), upd le D 1, sl)) : wX_letter_58 post (nI j) (nI (D * 256)) (wr_d q) (nI (D * 256) + 2) (nI N) (nI (D + 1)) (nI T) st le sl := by
  have hx := wr_ix (o := D * 256) (w := 2) (n := 2048) (by omega) (by decide)
  have k := wx_l75 hD hp
  refine ⟨hx.1, nm_r (e' := upd st (D * 256 + 2) (wr_d q)) ?_ (br_c (fun z => ?_) (fun z => ?_))⟩
  · rw [wr_dv]
    exact congrArg (fun z => upd st z (wr_d q)) hx.2
  · have e : j = 0 := (nI_eq (b := 0) (by omega) (by decide)).mp z
    rw [wr_df (fun y => y e)] at k
    exact k
  · have e : j ≠ 0 := fun y => z (by rw [y]; exact nI_0)
    rw [wr_dt e] at k
    exact k
theorem wx_letterG {post : Int32 → SX → Prop} (hN1 : 1 ≤ N) (hN : N ≤ 7) (hD : D < 8) (hL : ∀ i, i < D → le i = nI (L i)) (hs : wr_s L D < 12) {j : Nat} (hj : j < 3)
    (hp : ∀ a b, wr_X (2 ^ (N + 1)) (D * 256) a (wr_Le j) → (∀ j, j < D * 256 → a j = st j) → (∀ i, i < D → b i = le i) → b D = 1 → post (nI (D + 1)) (nI N, nI (D + 1), nI T, a, b, sl)) : wpX_letter post (nI N, nI D, nI T, st, le, sl) (nI j) := by
  have hM := wr_4 hN1
  refine br_f (nI_pos (by omega)) (br_t (nI_le (b := 2) (by omega) (by decide)) (br_f (nI_ge (b := 8) hD (by decide)) (wx_letters (by omega) hL (br_t (nI_lt (b := 12) hs (by decide)) (wx_push hN hD fun a h1 h2 => ?_)))))
  refine wx_top (D := D + 1) (by omega) ?_
  rw [Nat.add_sub_cancel]
  have k := wx_l58 (N := N) (T := T) (st := a) (le := upd le D 0) (sl := sl) (post := post) hD hj (q := j ≠ 1) (hp _ _ ?_ ?_ ?_ pk_us)
  · refine br_c (fun z => ?_) (fun z => ?_)
    · have e : j = 1 := (nI_eq (b := 1) (by omega) (by decide)).mp z
      rw [wr_df (p := j ≠ 1) (fun y => y e)] at k
      exact k
    · have e : j ≠ 1 := fun y => z (by rw [y]; rfl)
      rw [wr_dt e] at k
      exact k
  · refine wr_Xu (G := fun c => c = 2 ∧ j ≠ 1) (wr_Xu h1 (by omega) (fun c _ _ e => ⟨fun y => absurd y.1 e, False.elim⟩)) ?_ ?_
    · unfold wr_Le
      omega
    · intro c _ _ e
      unfold wr_Le
      omega
  · intro j hj
    rw [pk_un (by omega), pk_un (by omega)]
    exact h2 j hj
  · intro i hi
    rw [pk_un (by omega), pk_un (by omega)]
theorem wx_addE {post : SX → Prop} (hD1 : 1 ≤ D) (hD : D ≤ 8) (hp : post (nI N, nI D, nI T, upd st ((D - 1) * 256 + 1) 1, le, sl)) : wpX_addEmptyWordToTop post (nI N, nI D, nI T, st, le, sl) := by
  unfold wpX_addEmptyWordToTop
  dsimp only
  have hx := wr_ix (o := (D - 1) * 256) (w := 1) (n := 2048) (by omega) (by decide)
  refine wx_top hD1 ⟨hx.1, nm_r (e' := upd st ((D - 1) * 256 + 1) 1) ?_ hp⟩
  rw [wr_v1]
  exact congrArg (fun z => upd st z 1) hx.2
theorem wx_split {post : Int32 → Prop} {A B : Nat → Prop} {o1 o2 c s l : Nat} (ho1 : o1 + 256 ≤ 2048) (ho2 : o2 + 256 ≤ 2048) (hc : c < 256) (hl : l ≤ 7) (hs : s ≤ l + 1)
    (hA : ∀ t, s ≤ t → t ≤ l → st (o1 + c / 2 ^ t) = wr_d (A (c / 2 ^ t))) (hB : ∀ t, s ≤ t → t ≤ l → st (o2 + (2 ^ t + c % 2 ^ t)) = wr_d (B (2 ^ t + c % 2 ^ t)))
    (hp : post (wr_d (∃ t, s ≤ t ∧ t < l + 1 ∧ A (c / 2 ^ t) ∧ B (2 ^ t + c % 2 ^ t)))) : wpX_isSplit post (nI N, nI D, nI T, st, le, sl) (nI o1) (nI o2) (nI c) (nI s) (nI l) := by
  show ∃ n, wX_isSplit_4 post (nI o1) (nI o2) (nI c) (nI l) (nI N) (nI D) (nI T) st le sl n (nI s)
  refine ⟨_, wr_srch (fun n t => wX_isSplit_4 post (nI o1) (nI o2) (nI c) (nI l) (nI N) (nI D) (nI T) st le sl n (nI t)) (fun t => A (c / 2 ^ t) ∧ B (2 ^ t + c % 2 ^ t)) (p1 := post 1) (p0 := post 0) s (l + 1) hs ?_ ?_ ?_ ?_⟩
  · intro h
    rw [wr_dt h] at hp
    exact hp
  · intro h
    rw [wr_df h] at hp
    exact hp
  · exact fun h n => br_t (nI_lt (Nat.lt_succ_self l) (by omega)) h
  · intro n t h1 h2 k1 k2
    have d1 : c / 2 ^ t < 256 := Nat.lt_of_le_of_lt (Nat.div_le_self _ _) hc
    have d2 : 2 ^ t + c % 2 ^ t < 256 := Nat.lt_of_lt_of_le (wr_tlt c t) (wr_256 (N := t) (by omega))
    have e2 : (1 : Int32) <<< (nI t &&& 31) + (nI c &&& ((1 : Int32) <<< (nI t &&& 31) - 1)) = nI (2 ^ t + c % 2 ^ t) := by
      rw [wr_shl1 (by omega), wr_msk (by omega) (by omega), nI_add]
    have x1 := wr_ix (o := o1) (w := c / 2 ^ t) (n := 2048) (by omega) (by decide)
    have x2 := wr_ix (o := o2) (w := 2 ^ t + c % 2 ^ t) (n := 2048) (by omega) (by decide)
    refine br_f (nI_nlt (by omega) (by omega)) (nm_r (wr_shr (by omega) (by omega)) (nm_r e2 ⟨x1.1, ?_⟩))
    rw [x1.2, hA t h1 (by omega)]
    refine wr_cb (fun q => nm_r (nI_1 t) (k2 fun z => q z.1)) (fun q => ⟨x2.1, ?_⟩)
    rw [x2.2, hB t h1 (by omega)]
    exact wr_cb (fun q2 => nm_r (nI_1 t) (k2 fun z => q2 z.2)) (fun q2 => k1 ⟨q, q2⟩)
theorem wx_merge {post : SX → Prop} (hD2 : 2 ≤ D) (hD : D ≤ 8) (hp : post (nI N, nI (D - 1), nI T, st, upd le (D - 2) (le (D - 2) + le (D - 1)), sl)) : wpX_mergeTopIntoLower post (nI N, nI D, nI T, st, le, sl) := by
  unfold wpX_mergeTopIntoLower
  dsimp only
  have e1 : nI (D - 1) - 1 = nI (D - 2) := wr_sub1 (by omega)
  have c1 : (nI (D - 2)).toNatClampNeg = D - 2 := nI_clamp (by omega)
  have c2 : (nI (D - 1)).toNatClampNeg = D - 1 := nI_clamp (by omega)
  refine nm_r (wr_sub1 (by omega)) ?_
  rw [e1, c1, c2]
  exact ⟨vp_in_nI (by omega) (by decide), vp_in_nI (by omega) (by decide), vp_in_nI (by omega) (by decide), nm_e hp⟩
theorem wx_cat_in {post : Int32 → SX → Prop} {J : Int32 → (Nat → Int32) → (Nat → Int32) → (Nat → Int32) → Prop} (hN : N ≤ 7) {A B : Nat → Prop} {o l : Nat} (ho : o + 512 ≤ 2048) (hl : l ≤ N) (hB : wr_X (2 ^ (N + 1)) (o + 256) st B) {a : Nat → Int32}
    (h0 : wr_X (2 ^ (N + 1)) o a (wr_mix (fun c => 2 ^ (l + 1) ≤ c) (wr_Cat A B) A)) (h1 : wr_fr o st a)
    (hJ : ∀ a, wr_X (2 ^ (N + 1)) o a (wr_mix (fun c => 2 ^ l ≤ c) (wr_Cat A B) A) → wr_fr o st a → J (nI l + (-1)) a le sl) : ∃ n, wX_cat_36 post J (nI (o + 256)) (nI o) (nI l) (nI N) (nI D) (nI T) n (nI (2 ^ l)) a le sl := by
  have hM := wr_256 hN
  have hq := wr_pw (show l + 1 ≤ N + 1 by omega)
  have e2 : 2 ^ (l + 1) = 2 ^ l * 2 := Nat.pow_succ ..
  have p2 := Nat.two_pow_pos l
  refine pk_loop (fun n i a => wX_cat_36 post J (nI (o + 256)) (nI o) (nI l) (nI N) (nI D) (nI T) n (nI i) a le sl) (fun i a => 2 ^ l ≤ i ∧ wr_X (2 ^ (N + 1)) o a (wr_mix (fun c => 2 ^ (l + 1) ≤ c ∨ (2 ^ l ≤ c ∧ c < i)) (wr_Cat A B) A) ∧ wr_fr o st a) (2 ^ (l + 1)) (2 ^ l) a (by omega) ⟨Nat.le_refl _, ?_, h1⟩ ?_ ?_
  · exact wr_Xc h0 fun c _ _ => wr_mr (by omega)
  · intro n a ⟨_, h2, h3⟩
    refine br_t ?_ (nm_e (hJ a (wr_Xc h2 fun c _ _ => wr_mr (by omega)) h3))
    rw [wr_shl2 (by omega)]
    exact nI_le (Nat.le_refl _) (by omega)
  · intro n w a hw ⟨h2, h3, h4⟩ hk
    have hg : Nat.log2 w = l := wr_lg h2 hw
    have hx := wr_ix (o := o) (w := w) (n := 2048) (by omega) (by decide)
    refine br_f ?_ (wx_split (A := A) (B := B) (s := 0) (by omega) (by omega) (by omega) (by omega) (Nat.zero_le _) ?_ ?_ ⟨hx.1, nm_r (e' := upd a (o + w) (wr_d (∃ t, 0 ≤ t ∧ t < l + 1 ∧ A (w / 2 ^ t) ∧ B (2 ^ t + w % 2 ^ t)))) ?_ (nm_r (nI_1 w) (hk _ ⟨by omega, ?_, wr_fru h4 (by omega)⟩))⟩)
    · rw [wr_shl2 (by omega)]
      exact nI_ge hw (by omega)
    · intro t _ ht
      have b1 := wr_hd1 (c := w) (t := t) (by omega) (by omega)
      have b2 : w / 2 ^ t ≤ w := Nat.div_le_self _ _
      rw [h3 (w / 2 ^ t) b1 (by omega)]
      refine wr_dc (wr_mf ?_)
      by_cases e : t = 0
      · rw [e, Nat.pow_zero, Nat.div_one]
        omega
      · have b3 := wr_hdl (c := w) (t := t) (l := l) (by omega) hw
        omega
    · intro t _ ht
      have b1 := wr_tlt w t
      have b2 := wr_pw (show t + 1 ≤ N + 1 by omega)
      have b3 := wr_tl1 w t
      rw [h4.2 _ (by omega)]
      exact hB _ b3 (by omega)
    · rw [wr_dv, hx.2]
    · refine wr_mxu h3 ?_ (by omega) (fun c e => by omega)
      unfold wr_Cat
      rw [hg]
      exact ⟨fun ⟨t, x, y⟩ => ⟨t, Nat.zero_le _, by omega, y⟩, fun ⟨t, _, x, y⟩ => ⟨t, by omega, y⟩⟩
theorem wx_cat {post : Int32 → SX → Prop} (hN : N ≤ 7) (hD2 : 2 ≤ D) (hD : D ≤ 8) {A B : Nat → Prop} (hA : wr_X (2 ^ (N + 1)) ((D - 2) * 256) st A) (hB : wr_X (2 ^ (N + 1)) ((D - 1) * 256) st B)
    (hp : ∀ a, wr_X (2 ^ (N + 1)) ((D - 2) * 256) a (wr_Cat A B) → wr_fr ((D - 2) * 256) st a → post (nI (D - 1)) (nI N, nI (D - 1), nI T, a, upd le (D - 2) (le (D - 2) + le (D - 1)), sl)) : wpX_cat post (nI N, nI D, nI T, st, le, sl) := by
  have hM := wr_256 hN
  have eo : (D - 1) * 256 = (D - 2) * 256 + 256 := by omega
  refine br_t (nI_le (a := 2) hD2 (by omega)) (wx_top (by omega) (nm_r (e' := nI ((D - 2) * 256)) ?_ ?_))
  · exact (pk_sub (b := 256) (by omega)).trans (congrArg nI (by omega))
  rw [eo] at hB ⊢
  generalize ho : (D - 2) * 256 = o at hA hB hp ⊢
  have key : ∀ l, l ≤ N → ∀ a, wr_X (2 ^ (N + 1)) o a (wr_mix (fun c => 2 ^ (l + 1) ≤ c) (wr_Cat A B) A) → wr_fr o st a → wX_cat_27 post (nI (o + 256)) (nI o) (nI N) (nI D) (nI T) (l + 2) (nI l) a le sl := by
    intro l
    induction l with
    | zero =>
      intro hl a h0 h1
      refine br_f (nI_pos (n := 0) (by decide)) (nm_r (wr_shl1 (t := 0) (by decide)) (wx_cat_in hN (by omega) hl hB h0 h1 fun a h2 h3 => ?_))
      refine br_t (by decide) (wx_merge hD2 hD (hp a (wr_Xc h2 fun c h _ => (wr_mt1 (R := fun c => 2 ^ 0 ≤ c) h).symm) h3))
    | succ l ih =>
      intro hl a h0 h1
      refine br_f (nI_pos (by omega)) (nm_r (wr_shl1 (by omega)) (wx_cat_in hN (by omega) hl hB h0 h1 fun a h2 h3 => ?_))
      rw [pk_m1]
      exact ih (by omega) a h2 h3
  refine ⟨N + 2, key N (Nat.le_refl N) st ?_ wr_fr0⟩
  exact wr_Xc hA fun c _ h => wr_mf (by omega)
end
end
section
/-! 05: X's makers: alt, repetition, reverse, store -/
section
variable {N D T : Nat} {st le sl : Nat → Int32}
theorem wx_alt {post : Int32 → SX → Prop} (hN : N ≤ 7) (hD2 : 2 ≤ D) (hD : D ≤ 8) {A B : Nat → Prop} (hA : wr_X (2 ^ (N + 1)) ((D - 2) * 256) st A) (hB : wr_X (2 ^ (N + 1)) ((D - 1) * 256) st B)
    (hp : ∀ a, wr_X (2 ^ (N + 1)) ((D - 2) * 256) a (fun c => A c ∨ B c) → wr_fr ((D - 2) * 256) st a → post (nI (D - 1)) (nI N, nI (D - 1), nI T, a, upd le (D - 2) (le (D - 2) + le (D - 1)), sl)) : wpX_alt post (nI N, nI D, nI T, st, le, sl) := by
  have hM := wr_256 hN
  have eo : (D - 1) * 256 = (D - 2) * 256 + 256 := by omega
  refine br_t (nI_le (a := 2) hD2 (by omega)) (wx_top (by omega) (nm_r (e' := nI ((D - 2) * 256)) ?_ ?_))
  · exact (pk_sub (b := 256) (by omega)).trans (congrArg nI (by omega))
  rw [eo] at hB ⊢
  have ho2 : (D - 2) * 256 + 512 ≤ 2048 := by omega
  generalize ho : (D - 2) * 256 = o at hA hB hp ho2 ⊢
  refine pk_loop (fun n i a => wX_alt_24 post (nI (o + 256)) (nI o) (nI N) (nI D) (nI T) n (nI i) a le sl) (fun i a => 1 ≤ i ∧ wr_X (2 ^ (N + 1)) o a (wr_mix (fun c => c < i) (fun c => A c ∨ B c) A) ∧ wr_fr o st a) (2 ^ (N + 1)) 1 st (Nat.two_pow_pos _) ⟨Nat.le_refl _, ?_, wr_fr0⟩ ?_ ?_
  · exact wr_Xc hA fun c h _ => wr_mf (by omega)
  · intro n a ⟨_, h2, h3⟩
    refine br_t ?_ (wx_merge hD2 hD (hp a (wr_Xc h2 fun c _ h => (wr_mt1 (R := fun c => c < 2 ^ (N + 1)) (G := fun c => A c ∨ B c) h).symm) h3))
    rw [wr_shl2 (by omega)]
    exact nI_le (Nat.le_refl _) (by omega)
  · intro n w a hw ⟨h2, h3, h4⟩ hk
    have hx := wr_ix (o := o) (w := w) (n := 2048) (by omega) (by decide)
    have hy := wr_ix (o := o + 256) (w := w) (n := 2048) (by omega) (by decide)
    have ha : a (o + w) = wr_d (A w) := (h3 w h2 hw).trans (wr_dc (wr_mf (by omega)))
    have hb : a (o + 256 + w) = wr_d (B w) := (h4.2 _ (by omega)).trans (hB w h2 hw)
    have hn : wX_alt_24 post (nI (o + 256)) (nI o) (nI N) (nI D) (nI T) n (nI (w + 1)) (upd a (o + w) (wr_d (A w ∨ B w))) le sl := hk _ ⟨by omega, wr_mxu h3 Iff.rfl (Nat.lt_succ_self w) (fun c e => by omega), wr_fru h4 (by omega)⟩
    refine br_f ?_ ⟨hx.1, ?_⟩
    · rw [wr_shl2 (by omega)]
      exact nI_ge hw (by omega)
    rw [hx.2, ha]
    refine wr_cb (fun q => ⟨hy.1, ?_⟩) (fun q => ⟨hx.1, nm_r (e' := upd a (o + w) (wr_d (A w ∨ B w))) (by rw [wr_v1, wr_dt (Or.inl q)]) (nm_r (nI_1 w) hn)⟩)
    rw [hy.2, hb]
    exact wr_cb (fun q2 => ⟨hx.1, nm_r (e' := upd a (o + w) (wr_d (A w ∨ B w))) (by rw [wr_v0, wr_df (fun z => z.elim q q2)]) (nm_r (nI_1 w) hn)⟩) (fun q2 => ⟨hx.1, nm_r (e' := upd a (o + w) (wr_d (A w ∨ B w))) (by rw [wr_v1, wr_dt (Or.inr q2)]) (nm_r (nI_1 w) hn)⟩)
theorem wx_rep_in {post : SX → Prop} {J : Int32 → (Nat → Int32) → (Nat → Int32) → (Nat → Int32) → Prop} (hN : N ≤ 7) {A : Nat → Prop} {o l : Nat} (ho : o + 256 ≤ 2048) (hl2 : 2 ≤ l) (hl : l ≤ N) {a : Nat → Int32}
    (h0 : wr_X (2 ^ (N + 1)) o a (wr_mix (fun c => c < 2 ^ l) (wr_P A) A)) (h1 : wr_fr o st a)
    (hJ : ∀ a, wr_X (2 ^ (N + 1)) o a (wr_mix (fun c => c < 2 ^ (l + 1)) (wr_P A) A) → wr_fr o st a → J (nI l + 1) a le sl) : ∃ n, wX_repeatTop_19 post J (nI o) (nI l) (nI N) (nI D) (nI T) n (nI (2 ^ l)) a le sl := by
  have hM := wr_256 hN
  have hq := wr_pw (show l + 1 ≤ N + 1 by omega)
  have e2 : 2 ^ (l + 1) = 2 ^ l * 2 := Nat.pow_succ ..
  have p2 := Nat.two_pow_pos l
  refine pk_loop (fun n i a => wX_repeatTop_19 post J (nI o) (nI l) (nI N) (nI D) (nI T) n (nI i) a le sl) (fun i a => 2 ^ l ≤ i ∧ wr_X (2 ^ (N + 1)) o a (wr_mix (fun c => c < i) (wr_P A) A) ∧ wr_fr o st a) (2 ^ (l + 1)) (2 ^ l) a (by omega) ⟨Nat.le_refl _, h0, h1⟩ ?_ ?_
  · intro n a ⟨_, h2, h3⟩
    refine br_t ?_ (nm_e (hJ a h2 h3))
    rw [wr_shl2 (by omega)]
    exact nI_le (Nat.le_refl _) (by omega)
  · intro n w a hw ⟨h2, h3, h4⟩ hk
    have hg : Nat.log2 w = l := wr_lg h2 hw
    have hx := wr_ix (o := o) (w := w) (n := 2048) (by omega) (by decide)
    have ha : a (o + w) = wr_d (A w) := (h3 w (by omega) (by omega)).trans (wr_dc (wr_mf (by omega)))
    have hE : wr_P A w ↔ (A w ∨ ∃ t, 1 ≤ t ∧ t < l - 1 + 1 ∧ wr_P A (w / 2 ^ t) ∧ wr_P A (2 ^ t + w % 2 ^ t)) := by
      rw [wr_PX (by omega), hg, show l - 1 + 1 = l by omega]
    generalize hEE : (∃ t, 1 ≤ t ∧ t < l - 1 + 1 ∧ wr_P A (w / 2 ^ t) ∧ wr_P A (2 ^ t + w % 2 ^ t)) = E at hE
    have hn : wX_repeatTop_19 post J (nI o) (nI l) (nI N) (nI D) (nI T) n (nI (w + 1)) (upd a (o + w) (wr_d (A w ∨ E))) le sl := hk _ ⟨by omega, wr_mxu h3 hE (Nat.lt_succ_self w) (fun c e => by omega), wr_fru h4 (by omega)⟩
    refine br_f ?_ ⟨hx.1, ?_⟩
    · rw [wr_shl2 (by omega)]
      exact nI_ge hw (by omega)
    rw [hx.2, ha, wr_sub1 (show 1 ≤ l by omega)]
    refine wr_cb (fun q => wx_split (A := wr_P A) (B := wr_P A) (s := 1) (by omega) (by omega) (by omega) (by omega) (by omega) ?_ ?_ ?_) (fun q => ⟨hx.1, nm_r (e' := upd a (o + w) (wr_d (A w ∨ E))) (by rw [wr_v1, wr_dt (Or.inl q)]) (nm_r (nI_1 w) hn)⟩)
    · intro t ht1 ht
      have b1 := wr_hd1 (c := w) (t := t) (by omega) (by omega)
      have b3 := wr_hdl (c := w) (t := t) (l := l) (by omega) hw
      rw [h3 (w / 2 ^ t) b1 (by omega)]
      exact wr_dc (wr_mt1 (R := fun c => c < w) (by omega))
    · intro t ht1 ht
      have b1 := wr_tlt w t
      have b2 := wr_pw (show t + 1 ≤ l by omega)
      have b3 := wr_tl1 w t
      rw [h3 _ b3 (by omega)]
      exact wr_dc (wr_mt1 (R := fun c => c < w) (by omega))
    · rw [hEE]
      exact wr_cb (fun q2 => ⟨hx.1, nm_r (e' := upd a (o + w) (wr_d (A w ∨ E))) (by rw [wr_v0, wr_df (fun z => z.elim q q2)]) (nm_r (nI_1 w) hn)⟩) (fun q2 => ⟨hx.1, nm_r (e' := upd a (o + w) (wr_d (A w ∨ E))) (by rw [wr_v1, wr_dt (Or.inr q2)]) (nm_r (nI_1 w) hn)⟩)
theorem wx_repeat {post : SX → Prop} (hN1 : 1 ≤ N) (hN : N ≤ 7) (hD1 : 1 ≤ D) (hD : D ≤ 8) {A : Nat → Prop} (hA : wr_X (2 ^ (N + 1)) ((D - 1) * 256) st A)
    (hp : ∀ a, wr_X (2 ^ (N + 1)) ((D - 1) * 256) a (wr_P A) → wr_fr ((D - 1) * 256) st a → post (nI N, nI D, nI T, a, le, sl)) : wpX_repeatTop post (nI N, nI D, nI T, st, le, sl) := by
  unfold wpX_repeatTop
  dsimp only
  refine wx_top hD1 ?_
  have ho2 : (D - 1) * 256 + 256 ≤ 2048 := by omega
  generalize ho : (D - 1) * 256 = o at hA hp ho2 ⊢
  refine pk_loop (fun n i a => wX_repeatTop_7 post (nI o) (nI N) (nI D) (nI T) n (nI i) a le sl) (fun i a => 2 ≤ i ∧ wr_X (2 ^ (N + 1)) o a (wr_mix (fun c => c < 2 ^ i) (wr_P A) A) ∧ wr_fr o st a) (N + 1) 2 st (by omega) ⟨Nat.le_refl _, ?_, wr_fr0⟩ ?_ ?_
  · refine wr_Xc hA fun c h _ => ?_
    by_cases e : c < 2 ^ 2
    · exact (wr_mt1 (R := fun c => c < 2 ^ 2) e).trans (wr_P1 (wr_lgN (N := 1) h e))
    · exact wr_mf (R := fun c => c < 2 ^ 2) e
  · intro n a ⟨_, h2, h3⟩
    exact br_t (nI_lt (Nat.lt_succ_self N) (by omega)) (hp a (wr_Xc h2 fun c _ h => (wr_mt1 (R := fun c => c < 2 ^ (N + 1)) h).symm) h3)
  · intro n l a hl ⟨h2, h3, h4⟩ hk
    refine br_f (nI_nlt (by omega) (by omega)) (nm_r (wr_shl1 (by omega)) (wx_rep_in hN ho2 h2 (by omega) h3 h4 fun a h5 h6 => ?_))
    rw [nI_1]
    exact hk a ⟨by omega, h5, h6⟩
theorem wr_addE {M o : Nat} {a : Nat → Int32} {A : Nat → Prop} (h : wr_X M o a A) : wr_X M o (upd a (o + 1) 1) (fun c => c = 1 ∨ A c) := by
  rw [← wr_T]
  exact wr_Xu h ⟨fun _ => trivial, fun _ => Or.inl rfl⟩ (fun c _ _ e => ⟨fun z => z.elim (fun y => absurd y e) id, Or.inr⟩)
theorem wx_star {post : Int32 → SX → Prop} (hN1 : 1 ≤ N) (hN : N ≤ 7) (hD1 : 1 ≤ D) (hD : D ≤ 8) {A : Nat → Prop} (hA : wr_X (2 ^ (N + 1)) ((D - 1) * 256) st A)
    (hp : ∀ a, wr_X (2 ^ (N + 1)) ((D - 1) * 256) a (fun c => c = 1 ∨ wr_P A c) → wr_fr ((D - 1) * 256) st a → post (nI D) (nI N, nI D, nI T, a, le, sl)) : wpX_star post (nI N, nI D, nI T, st, le, sl) :=
  br_t (nI_le (a := 1) hD1 (by omega)) (wx_repeat hN1 hN hD1 hD hA fun _ h1 h2 => wx_addE hD1 hD (hp _ (wr_addE h1) (wr_fru h2 (by decide))))
theorem wx_plus {post : Int32 → SX → Prop} (hN1 : 1 ≤ N) (hN : N ≤ 7) (hD1 : 1 ≤ D) (hD : D ≤ 8) {A : Nat → Prop} (hA : wr_X (2 ^ (N + 1)) ((D - 1) * 256) st A)
    (hp : ∀ a, wr_X (2 ^ (N + 1)) ((D - 1) * 256) a (wr_P A) → wr_fr ((D - 1) * 256) st a → post (nI D) (nI N, nI D, nI T, a, le, sl)) : wpX_plus post (nI N, nI D, nI T, st, le, sl) :=
  br_t (nI_le (a := 1) hD1 (by omega)) (wx_repeat hN1 hN hD1 hD hA hp)
theorem wx_opt {post : Int32 → SX → Prop} (hD1 : 1 ≤ D) (hD : D ≤ 8) {A : Nat → Prop} (hA : wr_X (2 ^ (N + 1)) ((D - 1) * 256) st A)
    (hp : ∀ a, wr_X (2 ^ (N + 1)) ((D - 1) * 256) a (fun c => c = 1 ∨ A c) → wr_fr ((D - 1) * 256) st a → post (nI D) (nI N, nI D, nI T, a, le, sl)) : wpX_opt post (nI N, nI D, nI T, st, le, sl) :=
  br_t (nI_le (a := 1) hD1 (by omega)) (wx_addE hD1 hD (hp _ (wr_addE hA) (wr_fru wr_fr0 (by decide))))
theorem wx_mirror {post : Int32 → Prop} {w l : Nat} (hw : w < 256) (hl : l ≤ 7) (hp : post (nI (wr_m w l))) : wpX_mirror post (nI w) (nI l) := by
  have key : ∀ d i, i + d = l → wX_mirror_4 post (nI w) (nI l) (d + 1) (nI (wr_m w i)) (nI i) := by
    intro d
    induction d with
    | zero =>
      intro i hi
      have e : i = l := by omega
      subst e
      exact br_t (nI_le (Nat.le_refl _) (by omega)) hp
    | succ d ih =>
      intro i hi
      have b := (wr_mb w i).2
      have b2 := wr_256 (N := i) (by omega)
      have e : nI (wr_m w i) <<< ((1 : Int32) &&& 31) = nI (wr_m w i * 2) := wr_shl (t := 1) (by decide) (by omega)
      have e3 : w / 2 ^ i ≤ w := Nat.div_le_self _ _
      refine br_f (nI_ge (by omega) (by omega)) (nm_r ?_ (nm_r (nI_1 i) (ih (i + 1) (by omega))))
      rw [e, wr_shr (by omega) (by omega), wr_and1 (by omega), nI_add]
      rfl
  exact Exists.intro _ (key l 0 (by omega))
theorem wx_rev_in {post : Int32 → SX → Prop} {J : Int32 → (Nat → Int32) → (Nat → Int32) → (Nat → Int32) → Prop} (hN : N ≤ 7) {A : Nat → Prop} {o l : Nat} (ho : o + 256 ≤ 2048) (hl2 : 2 ≤ l) (hl : l ≤ N) {a : Nat → Int32}
    (h0 : wr_X (2 ^ (N + 1)) o a (wr_mix (fun c => c < 2 ^ l ∨ wr_mi c < 2 ^ l) (fun c => A (wr_mi c)) A)) (h1 : wr_fr o st a)
    (hJ : ∀ a, wr_X (2 ^ (N + 1)) o a (wr_mix (fun c => c < 2 ^ (l + 1) ∨ wr_mi c < 2 ^ (l + 1)) (fun c => A (wr_mi c)) A) → wr_fr o st a → J (nI l + 1) a le sl) : ∃ n, wX_reverse_30 post J (nI o) (nI l) (nI N) (nI D) (nI T) n (nI (2 ^ l)) a le sl := by
  have hM := wr_256 hN
  have hq := wr_pw (show l + 1 ≤ N + 1 by omega)
  have e2 : 2 ^ (l + 1) = 2 ^ l * 2 := Nat.pow_succ ..
  have p2 := Nat.two_pow_pos l
  refine pk_loop (fun n i a => wX_reverse_30 post J (nI o) (nI l) (nI N) (nI D) (nI T) n (nI i) a le sl) (fun i a => 2 ^ l ≤ i ∧ wr_X (2 ^ (N + 1)) o a (wr_mix (fun c => c < i ∨ wr_mi c < i) (fun c => A (wr_mi c)) A) ∧ wr_fr o st a) (2 ^ (l + 1)) (2 ^ l) a (by omega) ⟨Nat.le_refl _, h0, h1⟩ ?_ ?_
  · intro n a ⟨_, h2, h3⟩
    refine br_t ?_ (nm_e (hJ a h2 h3))
    rw [wr_shl2 (by omega)]
    exact nI_le (Nat.le_refl _) (by omega)
  · intro n w a hw ⟨h2, h3, h4⟩ hk
    have hg : Nat.log2 w = l := wr_lg h2 hw
    have hm : wr_m w l = wr_mi w := by unfold wr_mi; rw [hg]
    have hmm : wr_mi (wr_mi w) = w := wr_mm (by omega) (by omega)
    have hm1 : 1 ≤ wr_mi w := wr_mi1 w
    have hm2 : wr_mi w < 2 ^ (N + 1) := wr_miM (by omega) (by omega)
    have hx := wr_ix (o := o) (w := w) (n := 2048) (by omega) (by decide)
    have hy := wr_ix (o := o) (w := wr_mi w) (n := 2048) (by omega) (by decide)
    refine br_f ?_ (wx_mirror (by omega) (by omega) ?_)
    · rw [wr_shl2 (by omega)]
      exact nI_ge hw (by omega)
    rw [hm]
    refine pk_le (wr_mi w) w (fun hle => nm_r (nI_1 w) (hk a ⟨by omega, ?_, h4⟩)) (fun hgt => ⟨hx.1, ?_⟩)
    · refine wr_Xc h3 fun c c1 c2 => ?_
      by_cases e : c < w ∨ wr_mi c < w
      · exact (wr_mt1 (R := fun c => c < w + 1 ∨ wr_mi c < w + 1) (by omega)).trans (wr_mt1 (R := fun c => c < w ∨ wr_mi c < w) (G := fun c => A (wr_mi c)) e).symm
      · have hcc : wr_mi (wr_mi c) = c := wr_mm c1 (by omega)
        by_cases e1 : c < w + 1 ∨ wr_mi c < w + 1
        · have e5 : c = w := by
            rcases e1 with e1 | e1
            · omega
            · have e6 : wr_mi c = w := by omega
              rw [e6] at hcc
              omega
          have e7 : wr_mi c = c := by
            rw [e5] at e ⊢
            omega
          refine (wr_mt1 (R := fun c => c < w + 1 ∨ wr_mi c < w + 1) e1).trans (Iff.trans ?_ (wr_mf (R := fun c => c < w ∨ wr_mi c < w) e).symm)
          rw [e7]
        · exact (wr_mf (R := fun c => c < w + 1 ∨ wr_mi c < w + 1) e1).trans (wr_mf (R := fun c => c < w ∨ wr_mi c < w) e).symm
    · have ha : a (o + w) = wr_d (A w) := (h3 w (by omega) (by omega)).trans (wr_dc (wr_mf (R := fun c => c < w ∨ wr_mi c < w) (by omega)))
      have hb : a (o + wr_mi w) = wr_d (A (wr_mi w)) := (h3 _ hm1 hm2).trans (wr_dc (wr_mf (R := fun c => c < w ∨ wr_mi c < w) (by rw [hmm]; omega)))
      rw [hx.2, hy.2, ha, hb]
      refine nm_e ⟨hy.1, hx.1, nm_r (e' := upd a (o + w) (wr_d (A (wr_mi w)))) (by rw [wr_dv]) ⟨hy.1, nm_r (e' := upd (upd a (o + w) (wr_d (A (wr_mi w)))) (o + wr_mi w) (wr_d (A w))) (by rw [wr_dv]) (nm_r (nI_1 w) (hk _ ⟨by omega, ?_, wr_fru (wr_fru h4 (by omega)) (by omega)⟩))⟩⟩
      intro c c1 c2
      have hcc : wr_mi (wr_mi c) = c := wr_mm c1 (by omega)
      by_cases e : c = wr_mi w
      · rw [e, pk_us]
        refine wr_dc (Iff.symm (Iff.trans (wr_mt1 (R := fun c => c < w + 1 ∨ wr_mi c < w + 1) (by rw [hmm]; omega)) ?_))
        rw [hmm]
      · rw [pk_un (by omega)]
        by_cases e1 : c = w
        · rw [e1, pk_us]
          exact wr_dc (wr_mt1 (c := w) (R := fun c => c < w + 1 ∨ wr_mi c < w + 1) (G := fun c => A (wr_mi c)) (by omega)).symm
        · rw [pk_un (by omega), h3 c c1 c2]
          have e5 : wr_mi c ≠ w := fun z => e (by rw [← z]; exact hcc.symm)
          exact wr_dc (wr_mr (by omega))
theorem wx_reverse {post : Int32 → SX → Prop} (hN1 : 1 ≤ N) (hN : N ≤ 7) (hD1 : 1 ≤ D) (hD : D ≤ 8) {A : Nat → Prop} (hA : wr_X (2 ^ (N + 1)) ((D - 1) * 256) st A)
    (hp : ∀ a, wr_X (2 ^ (N + 1)) ((D - 1) * 256) a (fun c => A (wr_mi c)) → wr_fr ((D - 1) * 256) st a → post (nI D) (nI N, nI D, nI T, a, le, sl)) : wpX_reverse post (nI N, nI D, nI T, st, le, sl) := by
  have hM := wr_256 hN
  refine br_t (nI_le (a := 1) hD1 (by omega)) (wx_top hD1 ?_)
  have ho2 : (D - 1) * 256 + 256 ≤ 2048 := by omega
  generalize ho : (D - 1) * 256 = o at hA hp ho2 ⊢
  refine pk_loop (fun n i a => wX_reverse_18 post (nI o) (nI N) (nI D) (nI T) n (nI i) a le sl) (fun i a => 2 ≤ i ∧ wr_X (2 ^ (N + 1)) o a (wr_mix (fun c => c < 2 ^ i ∨ wr_mi c < 2 ^ i) (fun c => A (wr_mi c)) A) ∧ wr_fr o st a) (N + 1) 2 st (by omega) ⟨Nat.le_refl _, ?_, wr_fr0⟩ ?_ ?_
  · refine wr_Xc hA fun c h hc => ?_
    by_cases e : c < 2 ^ 2 ∨ wr_mi c < 2 ^ 2
    · have e7 : wr_mi c = c := by
        rcases e with e | e
        · exact wr_mi2 h e
        · have e8 := wr_mi2 (wr_mi1 c) e
          rw [wr_mm h (by omega)] at e8
          exact e8.symm
      refine (wr_mt1 (R := fun c => c < 2 ^ 2 ∨ wr_mi c < 2 ^ 2) e).trans ?_
      rw [e7]
    · exact wr_mf (R := fun c => c < 2 ^ 2 ∨ wr_mi c < 2 ^ 2) e
  · intro n a ⟨_, h2, h3⟩
    exact br_t (nI_lt (Nat.lt_succ_self N) (by omega)) (hp a (wr_Xc h2 fun c _ h => (wr_mt1 (R := fun c => c < 2 ^ (N + 1) ∨ wr_mi c < 2 ^ (N + 1)) (G := fun c => A (wr_mi c)) (Or.inl h)).symm) h3)
  · intro n l a hl ⟨h2, h3, h4⟩ hk
    refine br_f (nI_nlt (by omega) (by omega)) (nm_r (wr_shl1 (by omega)) (wx_rev_in hN ho2 h2 (by omega) h3 h4 fun a h5 h6 => ?_))
    rw [nI_1]
    exact hk a ⟨by omega, h5, h6⟩
theorem wx_store {post : Int32 → SX → Prop} (hN : N ≤ 7) (hD1 : 1 ≤ D) (hD : D ≤ 8) {j : Nat} (hj : j < 3) {A : Nat → Prop} (hA : wr_X (2 ^ (N + 1)) ((D - 1) * 256) st A)
    (hp : ∀ a, wr_X (2 ^ (N + 1)) (j * 256) a A → wr_fr (j * 256) sl a → post (nI (D - 1)) (nI N, nI (D - 1), nI T, st, le, a)) : wpX_store post (nI N, nI D, nI T, st, le, sl) (nI j) := by
  have hM := wr_256 hN
  refine br_f (nI_pos (by omega)) (br_t (nI_lt (b := 3) hj (by decide)) (br_t (nI_le (a := 1) hD1 (by omega)) (wx_top hD1 (nm_r (e' := nI (j * 256)) (pk_mul j 256) ?_))))
  have ho2 : (D - 1) * 256 + 256 ≤ 2048 := by omega
  have ho3 : j * 256 + 256 ≤ 768 := by omega
  generalize ho : (D - 1) * 256 = o at hA ho2 ⊢
  generalize hs : j * 256 = s at hp ho3 ⊢
  refine pk_loop (fun n i a => wX_store_36 post (nI o) (nI s) (nI N) (nI D) (nI T) n (nI i) st le a) (fun i a => 1 ≤ i ∧ (∀ c, 1 ≤ c → c < i → a (s + c) = wr_d (A c)) ∧ wr_fr s sl a) (2 ^ (N + 1)) 1 sl (Nat.two_pow_pos _) ⟨Nat.le_refl _, fun c a b => absurd b (by omega), wr_fr0⟩ ?_ ?_
  · intro n a ⟨_, h2, h3⟩
    refine br_t ?_ (nm_r (wr_sub1 hD1) (hp a h2 h3))
    rw [wr_shl2 (by omega)]
    exact nI_le (Nat.le_refl _) (by omega)
  · intro n w a hw ⟨h2, h3, h4⟩ hk
    have hx := wr_ix (o := o) (w := w) (n := 2048) (by omega) (by decide)
    have hy := wr_ix (o := s) (w := w) (n := 768) (by omega) (by decide)
    refine br_f ?_ ⟨hx.1, hy.1, nm_r (e' := upd a (s + w) (wr_d (A w))) ?_ (nm_r (nI_1 w) (hk _ ⟨by omega, ?_, wr_fru h4 (by omega)⟩))⟩
    · rw [wr_shl2 (by omega)]
      exact nI_ge hw (by omega)
    · rw [hx.2, hy.2, hA w h2 hw, wr_dv]
    · intro c c1 c2
      by_cases e : c = w
      · rw [e, pk_us]
      · rw [pk_un (by omega)]
        exact h3 c c1 (by omega)
end
end
section
/-! 06: Y's questions -/
section
variable {N D T : Nat} {st le sl fr : Nat → Int32} {S : Nat → Nat → Prop} {post : Int32 → Prop}
theorem wy_51 (hT : T ≤ 255) {a b c : Nat} (hab : a + b = wr_i S c) (hp : post (wr_d (wr_Ch S T c))) : wY_chosen_51 post (nI b) (nI a) (nI D) (nI T) (nI N) st le sl fr := by
  have hi := wr_i8 S c
  refine nm_r (e' := nI (wr_i S c)) (by rw [nI_add, hab]) ?_
  rw [wr_shr (by omega) (by omega), wr_and1 (Nat.lt_of_le_of_lt (Nat.div_le_self _ _) (by omega))]
  by_cases q : wr_Ch S T c
  · rw [wr_dt q] at hp
    exact br_t (congrArg nI q) hp
  · rw [wr_df q] at hp
    exact br_f (fun e => q ((nI_eq (b := 1) (Nat.lt_trans (Nat.mod_lt _ (by decide)) (by decide : 2 < 2 ^ 31)) (by decide)).mp e)) hp
theorem wy_32 (hT : T ≤ 255) (hS : ∀ i, i < 3 → wr_Y (i * 255) sl (S i)) {w a b : Nat} (hw : w < 255) (hab : a + b = wr_o (S 0 (w + 1)) + 2 * wr_o (S 1 (w + 1))) (hp : post (wr_d (wr_Ch S T (w + 1)))) : wY_chosen_32 post (nI w) (nI b) (nI a) (nI D) (nI T) (nI N) st le sl fr := by
  have hx := wr_ix (o := 510) (w := w) (n := 765) (by omega) (by decide)
  have e : sl (510 + w) = wr_d (S 2 (w + 1)) := hS 2 (by decide) w hw
  refine ⟨hx.1, ?_⟩
  have e2 : sl ((510 : Int32) + nI w).toNatClampNeg = wr_d (S 2 (w + 1)) := (congrArg sl hx.2).trans e
  rw [e2, nI_add]
  refine wr_cb (fun q => ?_) (fun q => ?_)
  · exact wy_51 (a := a + b) (b := 0) (c := w + 1) hT (by unfold wr_i; rw [wr_of q]; omega) hp
  · exact wy_51 (a := a + b) (b := 4) (c := w + 1) hT (by unfold wr_i; rw [wr_ot q]; omega) hp
theorem wy_14 (hT : T ≤ 255) (hS : ∀ i, i < 3 → wr_Y (i * 255) sl (S i)) {w a : Nat} (hw : w < 255) (ha : a = wr_o (S 0 (w + 1))) (hp : post (wr_d (wr_Ch S T (w + 1)))) : wY_chosen_14 post (nI w) (nI a) (nI D) (nI T) (nI N) st le sl fr := by
  have hx := wr_ix (o := 255) (w := w) (n := 765) (by omega) (by decide)
  have e : sl (255 + w) = wr_d (S 1 (w + 1)) := hS 1 (by decide) w hw
  refine ⟨hx.1, ?_⟩
  have e2 : sl ((255 : Int32) + nI w).toNatClampNeg = wr_d (S 1 (w + 1)) := (congrArg sl hx.2).trans e
  rw [e2]
  refine wr_cb (fun q => ?_) (fun q => ?_)
  · exact wy_32 (a := a) (b := 0) hT hS hw (by rw [wr_of q]; omega) hp
  · exact wy_32 (a := a) (b := 2) hT hS hw (by rw [wr_ot q]; omega) hp
theorem wy_chosen (hT : T ≤ 255) (hS : ∀ i, i < 3 → wr_Y (i * 255) sl (S i)) {w : Nat} (hw : w < 255) (hp : post (wr_d (wr_Ch S T (w + 1)))) : wpY_chosen post (nI D, nI T, nI N, st, le, sl, fr) (nI w) := by
  have e : sl w = wr_d (S 0 (w + 1)) := by
    have := hS 0 (by decide) w hw
    rw [Nat.zero_mul, Nat.zero_add] at this
    exact this
  unfold wpY_chosen
  dsimp only
  refine ⟨vp_in_nI (by omega) (by decide), ?_⟩
  rw [nI_clamp (by omega), e]
  refine wr_cb (fun q => ?_) (fun q => ?_)
  · exact wy_14 (a := 0) hT hS hw (wr_of q).symm hp
  · exact wy_14 (a := 1) hT hS hw (wr_ot q).symm hp
theorem wy_lenOf {w : Nat} (hw : w < 255) (hp : post (nI (Nat.log2 (w + 1)))) : wpY_lenOf post (nI D, nI T, nI N, st, le, sl, fr) (nI w) := by
  have hl := wr_lgN (c := w + 1) (N := 7) (by omega) (show w + 1 < 256 by omega)
  have key : ∀ d i, i + d = Nat.log2 (w + 1) → wY_lenOf_2 post (nI w) (nI D) (nI T) (nI N) st le sl fr (d + 1) (nI i) := by
    intro d
    induction d with
    | zero =>
      intro i hi
      have e : i = Nat.log2 (w + 1) := by omega
      by_cases e7 : i = 7
      · subst e7
        rw [← e] at hp
        exact br_t (nI_le (a := 7) (b := 7) (Nat.le_refl 7) (by decide)) hp
      · have p := Nat.two_pow_pos (i + 1)
        have q := wr_p31 (show i + 1 < 31 by omega)
        have r := @wr_lg2 (w + 1)
        rw [← e] at r hp
        refine br_f (nI_ge (b := 7) (by omega) (by decide)) (br_t ?_ hp)
        rw [nI_1, wr_shl1 (by omega), wr_sub1 p]
        exact nI_lt (by omega) (by omega)
    | succ d ih =>
      intro i hi
      have p := Nat.two_pow_pos (i + 1)
      have r := wr_lg1 (c := w + 1) (by omega)
      have q := wr_pw (show i + 1 ≤ Nat.log2 (w + 1) by omega)
      refine br_f (nI_ge (b := 7) (by omega) (by decide)) (br_f ?_ (nm_r (nI_1 i) (ih (i + 1) (by omega))))
      rw [nI_1, wr_shl1 (by omega), wr_sub1 p]
      exact nI_nlt (by omega) (by omega)
  exact Exists.intro _ (key _ 0 (Nat.zero_add _))
theorem wr_bits {w : Nat} (hw : w < 255) : nI w - ((1 : Int32) <<< (nI (Nat.log2 (w + 1)) &&& 31) - 1) = nI (w + 1 - 2 ^ Nat.log2 (w + 1)) := by
  have hl := wr_lgN (c := w + 1) (N := 7) (by omega) (show w + 1 < 256 by omega)
  have r := wr_lg1 (c := w + 1) (by omega)
  have p := Nat.two_pow_pos (Nat.log2 (w + 1))
  rw [wr_shl1 (by omega), wr_sub1 p, pk_sub (by omega)]
  exact congrArg nI (by omega)
theorem wy_prefix {w p : Nat} (hw : w < 255) (hpl : p ≤ Nat.log2 (w + 1)) (hp : post (nI ((w + 1) / 2 ^ (Nat.log2 (w + 1) - p) - 1))) : wpY_prefix post (nI D, nI T, nI N, st, le, sl, fr) (nI w) (nI p) := by
  have hl := wr_lgN (c := w + 1) (N := 7) (by omega) (show w + 1 < 256 by omega)
  have r := wr_lg1 (c := w + 1) (by omega)
  have y := wr_y1 r hpl
  have p2 := Nat.two_pow_pos p
  have p3 := Nat.two_pow_pos (Nat.log2 (w + 1))
  have z : 2 ^ p - 1 + (w + 1 - 2 ^ Nat.log2 (w + 1)) / 2 ^ (Nat.log2 (w + 1) - p) = (w + 1) / 2 ^ (Nat.log2 (w + 1) - p) - 1 := by
    rw [← y]
    generalize (w + 1 - 2 ^ Nat.log2 (w + 1)) / 2 ^ (Nat.log2 (w + 1) - p) = x
    omega
  unfold wpY_prefix
  dsimp only
  refine wy_lenOf hw (nm_r (wr_bits hw) ?_)
  rw [pk_sub hpl, wr_shl1 (by omega), wr_sub1 p2, wr_shr (by omega) (by omega), nI_add, z]
  exact hp
theorem wy_suffix {w p : Nat} (hw : w < 255) (hpl : p ≤ Nat.log2 (w + 1)) (hp : post (nI (2 ^ (Nat.log2 (w + 1) - p) + (w + 1) % 2 ^ (Nat.log2 (w + 1) - p) - 1))) : wpY_suffix post (nI D, nI T, nI N, st, le, sl, fr) (nI w) (nI p) := by
  have hl := wr_lgN (c := w + 1) (N := 7) (by omega) (show w + 1 < 256 by omega)
  have r := wr_lg1 (c := w + 1) (by omega)
  have y := wr_y2 r (show Nat.log2 (w + 1) - p ≤ Nat.log2 (w + 1) by omega)
  have p2 := Nat.two_pow_pos (Nat.log2 (w + 1) - p)
  have p3 := Nat.two_pow_pos (Nat.log2 (w + 1))
  unfold wpY_suffix
  dsimp only
  refine wy_lenOf hw (nm_r (wr_bits hw) (nm_r (pk_sub hpl) ?_))
  rw [wr_shl1 (by omega), wr_msk (by omega) (by omega), y, wr_sub1 p2, nI_add, show 2 ^ (Nat.log2 (w + 1) - p) - 1 + (w + 1) % 2 ^ (Nat.log2 (w + 1) - p) = 2 ^ (Nat.log2 (w + 1) - p) + (w + 1) % 2 ^ (Nat.log2 (w + 1) - p) - 1 by omega]
  exact hp
theorem wy_between (hT : T ≤ 255) (hS : ∀ i, i < 3 → wr_Y (i * 255) sl (S i)) {lo hi : Nat} (h1 : 1 ≤ lo) (h2 : lo ≤ hi) (h3 : hi ≤ 256) (hp : post (nI (wr_n (wr_Ch S T) lo (hi - lo)))) : wpY_chosenBetween post (nI D, nI T, nI N, st, le, sl, fr) (nI (lo - 1)) (nI (hi - 1)) := by
  rw [← wr_n_btw (P := wr_Ch S T) (Q := fun c => lo ≤ c ∧ c < hi ∧ wr_Ch S T c) h1 h2 h3 (fun c => Iff.rfl)] at hp
  show ∃ n, wY_chosenBetween_5 post (nI (lo - 1)) (nI (hi - 1)) (nI D) (nI T) (nI N) st le sl fr n 0 0
  refine ⟨_, wr_cnt (fun n i s => wY_chosenBetween_5 post (nI (lo - 1)) (nI (hi - 1)) (nI D) (nI T) (nI N) st le sl fr n (nI s) (nI (i - 1))) (fun c => lo ≤ c ∧ c < hi ∧ wr_Ch S T c) 1 255 (fun n => ?_) (fun n i s h4 h5 h6 hk => ?_)⟩
  · exact br_t (nI_le (a := 255) (b := 255) (Nat.le_refl _) (by decide)) hp
  · obtain ⟨w, rfl⟩ : ∃ w, i = w + 1 := ⟨i - 1, by omega⟩
    rw [Nat.add_sub_cancel] at hk ⊢
    refine br_f (nI_ge (b := 255) (by omega) (by decide)) (pk_lt w (lo - 1) (fun q => nm_r (nI_1 w) ?_) (fun q => pk_le (hi - 1) w (fun q2 => nm_r (nI_1 w) ?_) (fun q2 => wy_chosen hT hS (by omega) (wr_cb (fun q3 => nm_r (nI_1 w) ?_) (fun q3 => nm_r (nI_1 s) (nm_r (nI_1 w) ?_))))))
    · rw [wr_of (fun z => by have := z.1; omega)] at hk
      exact hk
    · rw [wr_of (fun z => by have := z.2.1; omega)] at hk
      exact hk
    · rw [wr_of (fun z => q3 z.2.2)] at hk
      exact hk
    · rw [wr_ot ⟨by omega, by omega, q3⟩] at hk
      exact hk
theorem wr_eM {t : Nat} (h : t < 30) : (1 : Int32) <<< ((nI t + 1) &&& 31) - 1 = nI (2 ^ (t + 1) - 1) := by
  rw [nI_1, wr_shl1 (by omega), wr_sub1 (Nat.two_pow_pos _)]
theorem wy_countB {v : Int32} (hN : N ≤ 7) (h : wr_bad N v) (hp : post (-1)) : wpY_count post (nI D, nI T, nI N, st, le, sl, fr) v :=
  h.elim (fun h => br_t h hp) fun h => br_f h.1 (br_f (Int32.not_le.mpr h.2) hp)
theorem wy_countG (hN : N ≤ 7) (hT : T ≤ 255) (hS : ∀ i, i < 3 → wr_Y (i * 255) sl (S i)) {l : Nat} (hl : l ≤ N) (hp : post (nI (wr_n (wr_Ch S T) (2 ^ l) (2 ^ l)))) : wpY_count post (nI D, nI T, nI N, st, le, sl, fr) (nI l) := by
  have p := Nat.two_pow_pos l
  have q := wr_pw (show l + 1 ≤ 8 by omega)
  have e : 2 ^ (l + 1) = 2 ^ l * 2 := Nat.pow_succ ..
  refine br_f (nI_pos (by omega)) (br_t (nI_le hl (by omega)) ?_)
  rw [wr_eM (by omega), wr_shl1 (by omega), wr_sub1 p]
  refine wy_between hT hS p (by omega) q ?_
  rw [show 2 ^ (l + 1) - 2 ^ l = 2 ^ l by omega]
  exact hp
theorem wy_total (hN : N ≤ 7) (hT : T ≤ 255) (hS : ∀ i, i < 3 → wr_Y (i * 255) sl (S i)) (hp : post (nI (wr_n (wr_Ch S T) 1 (2 ^ (N + 1) - 1)))) : wpY_total post (nI D, nI T, nI N, st, le, sl, fr) := by
  unfold wpY_total
  dsimp only
  rw [wr_eM (by omega)]
  exact wy_between (lo := 1) hT hS (Nat.le_refl 1) (Nat.two_pow_pos _) (wr_256 hN) hp
theorem wy_val0 (hN : N ≤ 7) {v w : Int32} (h : wr_bad2 N v w) (hp : post 0) : wpY_valid post (nI D, nI T, nI N, st, le, sl, fr) v w := by
  rcases h with h | ⟨l, hl, rfl, h⟩
  · exact h.elim (fun h => br_t h hp) fun h => br_f h.1 (br_t h.2 hp)
  · refine br_f (nI_pos (by omega)) (br_f (nI_nlt hl (by omega)) ?_)
    rw [wr_shl1 (by omega)]
    exact h.elim (fun h => br_t h hp) fun h => br_f h.1 (br_t h.2 hp)
theorem wy_val1 (hN : N ≤ 7) {l b : Nat} (hl : l ≤ N) (hb : b < 2 ^ l) (hp : post 1) : wpY_valid post (nI D, nI T, nI N, st, le, sl, fr) (nI l) (nI b) := by
  have q := wr_pw (show l ≤ 7 by omega)
  refine br_f (nI_pos (by omega)) (br_f (nI_nlt hl (by omega)) ?_)
  rw [wr_shl1 (by omega)]
  exact br_f (nI_pos (by omega)) (br_f (nI_ge hb (by omega)) hp)
theorem wr_st {l b : Nat} (hl : l ≤ 7) : ((1 : Int32) <<< (nI l &&& 31) - 1) + nI b = nI (2 ^ l + b - 1) := by
  have p := Nat.two_pow_pos l
  rw [wr_shl1 (by omega), wr_sub1 p, nI_add]
  exact congrArg nI (by omega)
theorem wy_isChosenB (hN : N ≤ 7) {v w : Int32} (h : wr_bad2 N v w) (hp : post (-1)) : wpY_isChosen post (nI D, nI T, nI N, st, le, sl, fr) v w := by
  unfold wpY_isChosen
  dsimp only
  exact wy_val0 hN h (br_t rfl hp)
theorem wy_isChosenG (hN : N ≤ 7) (hT : T ≤ 255) (hS : ∀ i, i < 3 → wr_Y (i * 255) sl (S i)) {l b : Nat} (hl : l ≤ N) (hb : b < 2 ^ l) (hp : post (wr_d (wr_Ch S T (2 ^ l + b)))) : wpY_isChosen post (nI D, nI T, nI N, st, le, sl, fr) (nI l) (nI b) := by
  unfold wpY_isChosen
  dsimp only
  have q := wr_lb hl hb
  have hM := wr_256 hN
  refine wy_val1 hN hl hb (br_f (by decide) ?_)
  rw [wr_st (by omega)]
  have e : 2 ^ l + b = 2 ^ l + b - 1 + 1 := by omega
  rw [e] at hp
  refine wy_chosen hT hS (by omega) (wr_cb (fun z => ?_) (fun z => ?_))
  · rw [wr_df z] at hp
    exact hp
  · rw [wr_dt z] at hp
    exact hp
theorem wy_rankB (hN : N ≤ 7) {v w : Int32} (h : wr_bad2 N v w) (hp : post (-1)) : wpY_rank post (nI D, nI T, nI N, st, le, sl, fr) v w := by
  unfold wpY_rank
  dsimp only
  exact wy_val0 hN h (br_t rfl hp)
theorem wy_rankG (hN : N ≤ 7) (hT : T ≤ 255) (hS : ∀ i, i < 3 → wr_Y (i * 255) sl (S i)) {l b : Nat} (hl : l ≤ N) (hb : b < 2 ^ l) (hp : post (nI (wr_n (wr_Ch S T) 1 (2 ^ l + b - 1)))) : wpY_rank post (nI D, nI T, nI N, st, le, sl, fr) (nI l) (nI b) := by
  unfold wpY_rank
  dsimp only
  have q := wr_lb hl hb
  have hM := wr_256 hN
  refine wy_val1 hN hl hb (br_f (by decide) ?_)
  rw [wr_st (by omega)]
  exact wy_between (lo := 1) hT hS (Nat.le_refl 1) q.1 (by omega) hp
theorem wy_find (hN : N ≤ 7) (hT : T ≤ 255) (hS : ∀ i, i < 3 → wr_Y (i * 255) sl (S i)) {k : Int32} (hp : ∀ r, wr_F (2 ^ (N + 1)) (wr_Ch S T) k r → post (nI r - 1)) : wpY_find post (nI D, nI T, nI N, st, le, sl, fr) k := by
  have hM := wr_256 hN
  have p := Nat.two_pow_pos (N + 1)
  have key : ∀ d w r, w + d = 2 ^ (N + 1) - 1 → wr_F (w + 1) (wr_Ch S T) k r → wY_find_7 post k (nI D) (nI T) (nI N) st le sl fr (d + 1) (nI (wr_n (wr_Ch S T) 1 w)) (nI r - 1) (nI w) := by
    intro d
    induction d with
    | zero =>
      intro w r hw hr
      rw [show w + 1 = 2 ^ (N + 1) by omega] at hr
      refine br_t ?_ (hp r hr)
      rw [wr_eM (by omega)]
      exact nI_le (by omega) (by omega)
    | succ d ih =>
      intro w r hw hr
      have hs := wr_n_s (wr_Ch S T) (show 1 ≤ w + 1 by omega)
      rw [Nat.add_sub_cancel] at hs
      refine br_f ?_ (wy_chosen hT hS (by omega) (wr_cb (fun q => nm_r (nI_1 w) ?_) (fun q => br_c (fun e => nm_r (nI_1 _) (nm_r (nI_1 w) ?_)) (fun e => nm_r (nI_1 _) (nm_r (nI_1 w) ?_)))))
      · rw [wr_eM (by omega)]
        exact nI_ge (by omega) (by omega)
      · have g := ih (w + 1) r (by omega) ?_
        · rw [hs, wr_of q] at g
          exact g
        · rcases hr with ⟨h0, h1⟩ | ⟨a1, b1, c1, d1⟩
          · refine Or.inl ⟨h0, fun c a b z => ?_⟩
            by_cases e : c = w + 1
            · rw [e] at z
              exact absurd z q
            · exact h1 c a (by omega) z
          · exact Or.inr ⟨a1, by omega, c1, d1⟩
      · have g := ih (w + 1) (w + 1) (by omega) (Or.inr ⟨by omega, by omega, q, by rw [Nat.add_sub_cancel]; exact e⟩)
        rw [hs, wr_ot q, nI_pred] at g
        exact g
      · have g := ih (w + 1) r (by omega) ?_
        · rw [hs, wr_ot q] at g
          exact g
        · rcases hr with ⟨h0, h1⟩ | ⟨a1, b1, c1, d1⟩
          · refine Or.inl ⟨h0, fun c a b z => ?_⟩
            by_cases e' : c = w + 1
            · rw [e', Nat.add_sub_cancel]
              exact e
            · exact h1 c a (by omega) z
          · exact Or.inr ⟨a1, by omega, c1, d1⟩
  have g := key (2 ^ (N + 1) - 1) 0 0 (Nat.zero_add _) (Or.inl ⟨rfl, fun c a b => absurd b (by omega)⟩)
  rw [show nI 0 - 1 = (-1 : Int32) by decide] at g
  exact Exists.intro _ g
theorem wy_wordLen (hN : N ≤ 7) (hT : T ≤ 255) (hS : ∀ i, i < 3 → wr_Y (i * 255) sl (S i)) {k : Int32} (h0 : wr_F (2 ^ (N + 1)) (wr_Ch S T) k 0 → post (-1)) (h1 : ∀ r, 1 ≤ r → r < 256 → wr_F (2 ^ (N + 1)) (wr_Ch S T) k r → post (nI (Nat.log2 r))) : wpY_wordLen post (nI D, nI T, nI N, st, le, sl, fr) k := by
  unfold wpY_wordLen
  dsimp only
  have hM := wr_256 hN
  refine wy_find hN hT hS fun r hr => ?_
  by_cases e : r = 0
  · subst e
    exact br_f (by decide) (h0 hr)
  · have hb : r < 256 := by
      rcases hr with h | h
      · omega
      · have := h.2.1
        omega
    obtain ⟨w, rfl⟩ : ∃ w, r = w + 1 := ⟨r - 1, by omega⟩
    rw [nI_pred]
    exact br_t (nI_pos' (by omega)) (wy_lenOf (by omega) (h1 _ (by omega) hb hr))
theorem wy_wordBits (hN : N ≤ 7) (hT : T ≤ 255) (hS : ∀ i, i < 3 → wr_Y (i * 255) sl (S i)) {k : Int32} (h0 : wr_F (2 ^ (N + 1)) (wr_Ch S T) k 0 → post (-1)) (h1 : ∀ r, 1 ≤ r → r < 256 → wr_F (2 ^ (N + 1)) (wr_Ch S T) k r → post (nI (r - 2 ^ Nat.log2 r))) : wpY_wordBits post (nI D, nI T, nI N, st, le, sl, fr) k := by
  unfold wpY_wordBits
  dsimp only
  have hM := wr_256 hN
  refine wy_find hN hT hS fun r hr => ?_
  by_cases e : r = 0
  · subst e
    exact br_f (by decide) (h0 hr)
  · have hb : r < 256 := by
      rcases hr with h | h
      · omega
      · have := h.2.1
        omega
    obtain ⟨w, rfl⟩ : ∃ w, r = w + 1 := ⟨r - 1, by omega⟩
    rw [nI_pred]
    refine br_t (nI_pos' (by omega)) (wy_lenOf (by omega) ?_)
    rw [wr_bits (by omega)]
    exact h1 _ (by omega) hb hr
theorem wy_countFromB (hN : N ≤ 7) {v w : Int32} (h : wr_bad2 N v w) (hp : post (-1)) : wpY_countFrom post (nI D, nI T, nI N, st, le, sl, fr) v w := by
  unfold wpY_countFrom
  dsimp only
  exact wy_val0 hN h (br_t rfl hp)
theorem wy_countFromG (hN : N ≤ 7) (hT : T ≤ 255) (hS : ∀ i, i < 3 → wr_Y (i * 255) sl (S i)) {l b : Nat} (hl : l ≤ N) (hb : b < 2 ^ l) (hp : post (nI (wr_S (wr_Ch S T) (2 ^ l + b) (N - l + 1)))) : wpY_countFrom post (nI D, nI T, nI N, st, le, sl, fr) (nI l) (nI b) := by
  unfold wpY_countFrom
  dsimp only
  have hM := wr_256 hN
  have q := wr_lb hl hb
  have p := Nat.two_pow_pos (N + 1)
  have hK := wr_KS (P := wr_Ch S T) (l := l) (w := 2 ^ l + b) (Nat.le_add_right _ _) q.2.1 (N - l + 1)
  rw [show l + (N - l + 1) = N + 1 by omega] at hK
  rw [← hK] at hp
  refine wy_val1 hN hl hb (br_f (by decide) (nm_r (wr_st (by omega)) ?_))
  generalize hw : 2 ^ l + b = v at hp q ⊢
  refine ⟨_, wr_cnt (fun n i s => wY_countFrom_25 post (nI l) (nI (v - 1)) (nI D) (nI T) (nI N) st le sl fr n (nI s) (nI (i - 1))) (wr_K (wr_Ch S T) l v) 1 (2 ^ (N + 1) - 1) (fun n => ?_) (fun n i s h4 h5 h6 hk => ?_)⟩
  · refine br_t ?_ hp
    rw [wr_eM (by omega)]
    exact nI_le (by omega) (by omega)
  · obtain ⟨w, rfl⟩ : ∃ w, i = w + 1 := ⟨i - 1, by omega⟩
    rw [Nat.add_sub_cancel] at hk ⊢
    have hg := wr_lgN (c := w + 1) (N := 7) (by omega) (show w + 1 < 256 by omega)
    refine br_f ?_ (wy_lenOf (by omega) (pk_lt (Nat.log2 (w + 1)) l (fun z => nm_r (nI_1 w) ?_) (fun z => wy_prefix (by omega) z ?_)))
    · rw [wr_eM (by omega)]
      exact nI_ge (by omega) (by omega)
    · rw [wr_of (fun y => by have := y.1; omega)] at hk
      exact hk
    · have h1 := wr_hd1 (c := w + 1) (t := Nat.log2 (w + 1) - l) (by omega) (by omega)
      have h2 : (w + 1) / 2 ^ (Nat.log2 (w + 1) - l) ≤ w + 1 := Nat.div_le_self _ _
      refine pk_eq ((w + 1) / 2 ^ (Nat.log2 (w + 1) - l) - 1) (v - 1) (fun y => wy_chosen hT hS (by omega) (wr_cb (fun x => nm_r (nI_1 w) ?_) (fun x => nm_r (nI_1 s) (nm_r (nI_1 w) ?_)))) (fun y => nm_r (nI_1 w) ?_)
      · rw [wr_of (fun t => x t.2.2)] at hk
        exact hk
      · rw [wr_ot (p := wr_K (wr_Ch S T) l v (w + 1)) ⟨z, by omega, x⟩] at hk
        exact hk
      · rw [wr_of (fun t => by have := t.2.1; omega)] at hk
        exact hk
theorem wy_alike (hN : N ≤ 7) (hT : T ≤ 255) (hS : ∀ i, i < 3 → wr_Y (i * 255) sl (S i)) {l u v : Nat} (hl : l ≤ N) (hu : u < 2 ^ l) (hv : v < 2 ^ l) (hp : post (wr_d (wr_A (wr_Ch S T) (N - l) (2 ^ l + u) (2 ^ l + v)))) : wpY_alike post (nI D, nI T, nI N, st, le, sl, fr) (nI l) (nI u) (nI v) := by
  have hM := wr_256 hN
  have q1 := wr_lb hl hu
  have q2 := wr_lb hl hv
  have pM := Nat.two_pow_pos (N - l + 1)
  have pN := wr_pw (show N - l + 1 ≤ N + 1 by omega)
  have eM : (1 : Int32) <<< ((nI N - nI l + 1) &&& 31) - 1 = nI (2 ^ (N - l + 1) - 1) := by rw [pk_sub hl, wr_eM (by omega)]
  show ∃ n, wY_alike_3 post (nI l) (nI u) (nI v) (nI D) (nI T) (nI N) st le sl fr n 0
  refine ⟨_, wr_srch (fun n i => wY_alike_3 post (nI l) (nI u) (nI v) (nI D) (nI T) (nI N) st le sl fr n (nI i)) (fun z => ¬ (wr_Ch S T ((2 ^ l + u) * 2 ^ Nat.log2 (z + 1) + (z + 1 - 2 ^ Nat.log2 (z + 1))) ↔ wr_Ch S T ((2 ^ l + v) * 2 ^ Nat.log2 (z + 1) + (z + 1 - 2 ^ Nat.log2 (z + 1))))) (p1 := post 0) (p0 := post 1) 0 (2 ^ (N - l + 1) - 1) (Nat.zero_le _) ?_ ?_ ?_ ?_⟩
  · intro ⟨z, _, hz, q⟩
    rw [wr_df (fun h => q (wr_Az.mp h (z + 1) (by omega) (by omega)))] at hp
    exact hp
  · intro h
    rw [wr_dt (wr_Az.mpr fun d a b => Classical.byContradiction fun q => h ⟨d - 1, Nat.zero_le _, by omega, by rw [show d - 1 + 1 = d by omega]; exact q⟩)] at hp
    exact hp
  · intro h n
    refine br_t ?_ h
    rw [eM]
    exact nI_le (Nat.le_refl _) (by omega)
  · intro n z _ hz k1 k2
    have hg := wr_lgN (c := z + 1) (N := N - l) (by omega) (by omega)
    have g1 := wr_lg1 (c := z + 1) (by omega)
    have g2 := @wr_lg2 (z + 1)
    refine br_f ?_ (wy_lenOf (by omega) (nm_r (wr_bits (by omega)) (nm_r (e' := nI (2 ^ (l + Nat.log2 (z + 1)) + (z + 1 - 2 ^ Nat.log2 (z + 1)) - 1)) ?_ ?_)))
    · rw [eM]
      exact nI_ge hz (by omega)
    · rw [nI_add]
      exact wr_st (by omega)
    · generalize hm : Nat.log2 (z + 1) = m at k1 k2 hg g1 g2 ⊢
      have e2 : 2 ^ (m + 1) = 2 ^ m * 2 := Nat.pow_succ ..
      have e3 : 2 ^ (l + m) = 2 ^ l * 2 ^ m := Nat.pow_add ..
      have pm := Nat.two_pow_pos m
      have b1 := wr_wb (N := N) (r := N - l) (Nat.le_add_right (2 ^ l) u) q1.2.1 (by omega) hg (show z + 1 - 2 ^ m < 2 ^ m by omega)
      have b2 := wr_wb (N := N) (r := N - l) (Nat.le_add_right (2 ^ l) v) q2.2.1 (by omega) hg (show z + 1 - 2 ^ m < 2 ^ m by omega)
      have c1 : 2 ^ (l + m) + (z + 1 - 2 ^ m) - 1 + u * 2 ^ m = (2 ^ l + u) * 2 ^ m + (z + 1 - 2 ^ m) - 1 := by
        rw [Nat.add_mul, e3]
        have := Nat.mul_le_mul (Nat.two_pow_pos l) pm
        omega
      have c2 : 2 ^ (l + m) + (z + 1 - 2 ^ m) - 1 + v * 2 ^ m = (2 ^ l + v) * 2 ^ m + (z + 1 - 2 ^ m) - 1 := by
        rw [Nat.add_mul, e3]
        have := Nat.mul_le_mul (Nat.two_pow_pos l) pm
        omega
      have d1 : u * 2 ^ m < 2 ^ 32 := by
        rw [Nat.add_mul] at b1
        omega
      have d2 : v * 2 ^ m < 2 ^ 32 := by
        rw [Nat.add_mul] at b2
        omega
      rw [wr_shl (by omega) d1, wr_shl (by omega) d2, nI_add, nI_add, c1, c2]
      generalize (2 ^ l + u) * 2 ^ m + (z + 1 - 2 ^ m) = x1 at b1 k1 k2 ⊢
      generalize (2 ^ l + v) * 2 ^ m + (z + 1 - 2 ^ m) = x2 at b2 k1 k2 ⊢
      obtain ⟨y1, rfl⟩ : ∃ y, x1 = y + 1 := ⟨x1 - 1, by omega⟩
      obtain ⟨y2, rfl⟩ : ∃ y, x2 = y + 1 := ⟨x2 - 1, by omega⟩
      rw [Nat.add_sub_cancel, Nat.add_sub_cancel]
      exact wy_chosen hT hS (by omega) (wy_chosen hT hS (by omega) (br_c (fun h => nm_r (nI_1 z) (k2 (fun q => q (wr_di h)))) (fun h => k1 (fun q => h (wr_dc q)))))
theorem wy_like (hN : N ≤ 7) (hT : T ≤ 255) (hS : ∀ i, i < 3 → wr_Y (i * 255) sl (S i)) {l u : Nat} (hl : l ≤ N) (hu : u < 2 ^ l) (hp : post (wr_d (¬ wr_G (wr_Ch S T) l (N - l) (2 ^ l + u)))) : wpY_likeSmaller post (nI D, nI T, nI N, st, le, sl, fr) (nI l) (nI u) := by
  have hM := wr_256 hN
  have q := wr_lb hl hu
  show ∃ n, wY_likeSmaller_2 post (nI l) (nI u) (nI D) (nI T) (nI N) st le sl fr n 0
  refine ⟨_, wr_srch (fun n i => wY_likeSmaller_2 post (nI l) (nI u) (nI D) (nI T) (nI N) st le sl fr n (nI i)) (fun v => wr_A (wr_Ch S T) (N - l) (2 ^ l + u) (2 ^ l + v)) (p1 := post 1) (p0 := post 0) 0 u (Nat.zero_le _) ?_ ?_ ?_ ?_⟩
  · intro ⟨v, _, hv, h⟩
    rw [wr_dt (fun g => g ⟨2 ^ l + v, Nat.le_add_right _ _, by omega, wr_As.mp h⟩)] at hp
    exact hp
  · intro h
    rw [wr_df (fun g => g fun ⟨e, a, b, c⟩ => h ⟨e - 2 ^ l, Nat.zero_le _, by omega, by rw [show 2 ^ l + (e - 2 ^ l) = e by omega]; exact wr_As.mp c⟩)] at hp
    exact hp
  · exact fun h n => br_t (nI_le (Nat.le_refl u) (by omega)) h
  · intro n v _ hv k1 k2
    exact br_f (nI_ge hv (by omega)) (wy_alike hN hT hS hl hu (by omega) (wr_cb (fun q => nm_r (nI_1 v) (k2 q)) k1))
theorem wy_groupsB {v : Int32} (h : wr_bad N v) (hp : post (-1)) : wpY_groups post (nI D, nI T, nI N, st, le, sl, fr) v :=
  h.elim (fun h => br_t h hp) fun h => br_f h.1 (br_f (Int32.not_le.mpr h.2) hp)
theorem wy_groupsG (hN : N ≤ 7) (hT : T ≤ 255) (hS : ∀ i, i < 3 → wr_Y (i * 255) sl (S i)) {l : Nat} (hl : l ≤ N) (hp : post (nI (wr_n (wr_G (wr_Ch S T) l (N - l)) (2 ^ l) (2 ^ l)))) : wpY_groups post (nI D, nI T, nI N, st, le, sl, fr) (nI l) := by
  have hM := wr_256 hN
  have hq := wr_pw (show l + 1 ≤ N + 1 by omega)
  have e : 2 ^ (l + 1) = 2 ^ l * 2 := Nat.pow_succ ..
  have g : wY_groups_18 post (nI l) (nI D) (nI T) (nI N) st le sl fr (2 ^ l + 1) (nI 0) (nI (2 ^ l - 2 ^ l)) := wr_cnt (fun n i s => wY_groups_18 post (nI l) (nI D) (nI T) (nI N) st le sl fr n (nI s) (nI (i - 2 ^ l))) (wr_G (wr_Ch S T) l (N - l)) (2 ^ l) (2 ^ l) (fun n => ?_) (fun n i s h4 h5 h6 hk => ?_)
  · rw [Nat.sub_self] at g
    exact br_f (nI_pos (by omega)) (br_t (nI_le hl (by omega)) (Exists.intro _ g))
  · rw [Nat.add_sub_cancel]
    refine br_t ?_ hp
    rw [wr_shl1 (by omega)]
    exact nI_le (Nat.le_refl _) (by omega)
  · obtain ⟨u, rfl⟩ : ∃ u, i = 2 ^ l + u := ⟨i - 2 ^ l, by omega⟩
    rw [Nat.add_assoc, Nat.add_sub_cancel_left] at hk
    rw [Nat.add_sub_cancel_left]
    refine br_f ?_ (wy_like hN hT hS hl (by omega) (wr_cb (fun q => nm_r (nI_1 s) (nm_r (nI_1 u) ?_)) (fun q => nm_r (nI_1 u) ?_)))
    · rw [wr_shl1 (by omega)]
      exact nI_ge (by omega) (by omega)
    · rw [wr_ot (Classical.byContradiction q)] at hk
      exact hk
    · rw [wr_of q] at hk
      exact hk
end
end
section
/-! 07: Y's makers -/
def wr_f (k : Nat) (f : Nat → Int32) (G : Nat → Prop) : Prop := ∀ w, w < k → f w = wr_d (G (w + 1))
theorem wr_f_u {k w : Nat} {f : Nat → Int32} {G G' : Nat → Prop} {q : Prop} (h : wr_f k f G) (hq : G' (w + 1) ↔ q) (hG : ∀ c, c ≠ w + 1 → (G' c ↔ G c)) : wr_f k (upd f w (wr_d q)) G' := by
  intro v hv
  by_cases e : v = w
  · rw [e, pk_us]
    exact (wr_dc hq).symm
  · rw [pk_un e, h v hv]
    exact (wr_dc (hG (v + 1) (by omega))).symm
theorem wr_f_s {w : Nat} {f : Nat → Int32} {G : Nat → Prop} (h : wr_f w f G) : wr_f (w + 1) (upd f w (wr_d (G (w + 1)))) G := by
  intro v hv
  by_cases e : v = w
  · rw [e, pk_us]
  · rw [pk_un e]
    exact h v (by omega)
theorem wr_f_0 {f : Nat → Int32} {G : Nat → Prop} : wr_f 0 f G := fun w h => absurd h (Nat.not_lt_zero w)
section
variable {N D T : Nat} {st le sl fr : Nat → Int32} {L : Nat → Nat}
theorem wy_letters {post : Int32 → Prop} (hD : D ≤ 8) (hL : ∀ i, i < D → le i = nI (L i)) (hp : post (nI (wr_s L D))) : wpY_letters post (nI D, nI T, nI N, st, le, sl, fr) := by
  have key : ∀ d i, i + d = D → wY_letters_4 post (nI D) (nI T) (nI N) st le sl fr (d + 1) (nI (wr_s L i)) (nI i) := by
    intro d
    induction d with
    | zero =>
      intro i hi
      have e : i = D := by omega
      subst e
      exact br_t (nI_le (Nat.le_refl _) (by omega)) hp
    | succ d ih =>
      intro i hi
      refine br_f (nI_ge (by omega) (by omega)) ⟨vp_in_nI (by omega) (by decide), nm_r ?_ (nm_r (nI_1 i) (ih (i + 1) (by omega)))⟩
      rw [nI_clamp (by omega), hL i (by omega), nI_add]
      rfl
  exact Exists.intro _ (key D 0 (by omega))
theorem wy_clear {post : SY → Prop} (hp : ∀ f, wr_f 255 f (fun _ => False) → post (nI D, nI T, nI N, st, le, sl, f)) : wpY_clearFresh post (nI D, nI T, nI N, st, le, sl, fr) := by
  show ∃ n, wY_clearFresh_2 post (nI D) (nI T) (nI N) n 0 st le sl fr
  refine pk_loop (fun n i f => wY_clearFresh_2 post (nI D) (nI T) (nI N) n (nI i) st le sl f) (fun i f => wr_f i f (fun _ => False)) 255 0 fr (by decide) wr_f_0 ?_ ?_
  · exact fun n f h => br_t (nI_le (a := 255) (b := 255) (Nat.le_refl _) (by decide)) (hp f h)
  · intro n i f hi h hk
    refine br_f (nI_ge (b := 255) hi (by decide)) ⟨vp_in_nI hi (by decide), nm_r (e' := upd f i (wr_d False)) ?_ (nm_r (nI_1 i) (hk _ (wr_f_s h)))⟩
    rw [wr_v0, nI_clamp (by omega), wr_Fa]
theorem wr_o1 (h : 1 ≤ D) : (nI D - 1) * 255 = nI ((D - 1) * 255) := by
  rw [wr_sub1 h]
  exact pk_mul _ 255
theorem wr_o2 (h : 2 ≤ D) : (nI D - 2) * 255 = nI ((D - 2) * 255) := by
  have e : nI D - 2 = nI (D - 2) := pk_sub (b := 2) h
  rw [e]
  exact pk_mul _ 255
theorem wy_toTop {post : SY → Prop} (hD1 : 1 ≤ D) (hD : D ≤ 8) {G : Nat → Prop} (hf : wr_f 255 fr G) (hp : ∀ a, wr_Y ((D - 1) * 255) a G → (∀ j, j < (D - 1) * 255 → a j = st j) → post (nI D, nI T, nI N, a, le, sl, fr)) : wpY_freshToTop post (nI D, nI T, nI N, st, le, sl, fr) := by
  show ∃ n, wY_freshToTop_2 post (nI D) (nI T) (nI N) n 0 st le sl fr
  refine pk_loop (fun n i a => wY_freshToTop_2 post (nI D) (nI T) (nI N) n (nI i) a le sl fr) (fun i a => (∀ w, w < i → a ((D - 1) * 255 + w) = wr_d (G (w + 1))) ∧ ∀ j, j < (D - 1) * 255 → a j = st j) 255 0 st (by decide) ⟨fun w h => absurd h (Nat.not_lt_zero w), fun _ _ => rfl⟩ ?_ ?_
  · exact fun n a h => br_t (nI_le (a := 255) (b := 255) (Nat.le_refl _) (by decide)) (hp a h.1 h.2)
  · intro n i a hi ⟨h1, h2⟩ hk
    have hx := wr_ix (o := (D - 1) * 255) (w := i) (n := 2040) (by omega) (by decide)
    refine br_f (nI_ge (b := 255) hi (by decide)) ⟨vp_in_nI hi (by decide), ?_⟩
    rw [wr_o1 hD1, hx.2, nI_clamp (by omega), hf i hi, wr_dv]
    refine ⟨hx.1, nm_e (nm_r (nI_1 i) (hk _ ⟨?_, fun j hj => (pk_un (by omega)).trans (h2 j hj)⟩))⟩
    intro w hw
    by_cases e : w = i
    · rw [e, pk_us]
    · rw [pk_un (by omega)]
      exact h1 w (by omega)
theorem wy_push {post : Int32 → SY → Prop} (hD : D < 8) {p : Nat} {G : Nat → Prop} (hf : wr_f 255 fr G) (hp : ∀ a, wr_Y (D * 255) a G → (∀ j, j < D * 255 → a j = st j) → post (nI (D + 1)) (nI (D + 1), nI T, nI N, a, upd le D (nI p), sl, fr)) : wpY_push post (nI D, nI T, nI N, st, le, sl, fr) (nI p) := by
  unfold wpY_push
  dsimp only
  refine ⟨vp_in_nI hD (by decide), nm_r (e' := upd le D (nI p)) (by rw [nI_clamp (by omega)]) (nm_r (nI_1 D) (wy_toTop (D := D + 1) (by omega) (by omega) hf ?_))⟩
  rw [Nat.add_sub_cancel]
  exact hp
theorem wy_l51 {post : Int32 → SY → Prop} (hD : D < 8) {j : Nat} (hj : j < 3) (hf : wr_f 255 fr (fun c => c = 2 ∧ j ≠ 1)) (hp : ∀ a f, wr_Y (D * 255) a (wr_Le j) → (∀ j, j < D * 255 → a j = st j) → post (nI (D + 1)) (nI (D + 1), nI T, nI N, a, upd le D 1, sl, f)) : wY_letter_51 post (nI j) (nI D) (nI T) (nI N) st le sl fr := by
  refine br_c (fun z => ?_) (fun z => nm_r (e' := upd fr 2 (wr_d True)) (by rw [wr_v1, wr_T]) ?_)
  · have e : j = 0 := (nI_eq (b := 0) (by omega) (by decide)).mp z
    refine wy_push (p := 1) (G := wr_Le j) hD (fun w hw => (hf w hw).trans (wr_dc ?_)) (fun a h1 h2 => hp a _ h1 h2)
    unfold wr_Le
    omega
  · have e : j ≠ 0 := fun y => z (by rw [y]; exact nI_0)
    refine wy_push (p := 1) (G := wr_Le j) hD (wr_f_u hf ⟨fun _ => trivial, fun _ => Or.inr ⟨rfl, e⟩⟩ (fun c hc => ?_)) (fun a h1 h2 => hp a _ h1 h2)
    unfold wr_Le
    omega
theorem wy_letterG {post : Int32 → SY → Prop} (hD : D < 8) (hL : ∀ i, i < D → le i = nI (L i)) (hs : wr_s L D < 12) {j : Nat} (hj : j < 3)
    (hp : ∀ a f, wr_Y (D * 255) a (wr_Le j) → (∀ j, j < D * 255 → a j = st j) → post (nI (D + 1)) (nI (D + 1), nI T, nI N, a, upd le D 1, sl, f)) : wpY_letter post (nI D, nI T, nI N, st, le, sl, fr) (nI j) := by
  refine br_f (nI_pos (by omega)) (br_t (nI_le (b := 2) (by omega) (by decide)) (br_f (fun z => absurd ((nI_eq (b := 8) (by omega) (by decide)).mp z) (by omega)) (wy_letters (by omega) hL (br_f (fun z => absurd ((nI_eq (b := 12) (by omega) (by decide)).mp z) (by omega)) (wy_clear fun f hf => ?_)))))
  refine br_c (fun z => ?_) (fun z => nm_r (e' := upd f 1 (wr_d True)) (by rw [wr_v1, wr_T]) ?_)
  · have e : j = 1 := (nI_eq (b := 1) (by omega) (by decide)).mp z
    exact wy_l51 hD hj (fun w hw => (hf w hw).trans (wr_dc ⟨False.elim, fun y => y.2 e⟩)) hp
  · have e : j ≠ 1 := fun y => z (by rw [y]; rfl)
    exact wy_l51 hD hj (wr_f_u hf ⟨fun _ => trivial, fun _ => ⟨rfl, e⟩⟩ (fun c hc => ⟨fun y => hc y.1, False.elim⟩)) hp
theorem wy_unitG {post : Int32 → SY → Prop} (hD : D < 8) (hp : ∀ a f, wr_Y (D * 255) a (fun c => c = 1) → (∀ j, j < D * 255 → a j = st j) → post (nI (D + 1)) (nI (D + 1), nI T, nI N, a, upd le D 0, sl, f)) : wpY_unit post (nI D, nI T, nI N, st, le, sl, fr) := by
  refine br_f (fun z => absurd ((nI_eq (b := 8) (by omega) (by decide)).mp z) (by omega)) (wy_clear fun f hf => ?_)
  refine nm_r (e' := upd f 0 (wr_d True)) (by rw [wr_v1, wr_T]) ?_
  exact wy_push (p := 0) (G := fun c => c = 1) hD (wr_f_u hf ⟨fun _ => trivial, fun _ => rfl⟩ (fun c hc => ⟨fun y => hc y, False.elim⟩)) (fun a h1 h2 => hp a _ h1 h2)
theorem wy_noneG {post : Int32 → SY → Prop} (hD : D < 8) (hp : ∀ a f, wr_Y (D * 255) a (fun _ => False) → (∀ j, j < D * 255 → a j = st j) → post (nI (D + 1)) (nI (D + 1), nI T, nI N, a, upd le D 0, sl, f)) : wpY_none post (nI D, nI T, nI N, st, le, sl, fr) := by
  refine br_f (fun z => absurd ((nI_eq (b := 8) (by omega) (by decide)).mp z) (by omega)) (wy_clear fun f hf => ?_)
  exact wy_push (p := 0) hD hf (fun a h1 h2 => hp a _ h1 h2)
theorem wy_inTop {post : Int32 → Prop} (hD1 : 1 ≤ D) (hD : D ≤ 8) {A : Nat → Prop} (hA : wr_Y ((D - 1) * 255) st A) {w : Nat} (hw : w < 255) (hp : post (wr_d (A (w + 1)))) : wpY_inTop post (nI D, nI T, nI N, st, le, sl, fr) (nI w) := by
  have hx := wr_ix (o := (D - 1) * 255) (w := w) (n := 2040) (by omega) (by decide)
  unfold wpY_inTop
  dsimp only
  rw [wr_o1 hD1, hx.2, hA w hw]
  exact ⟨hx.1, wr_dn _, hp⟩
theorem wy_inSecond {post : Int32 → Prop} (hD2 : 2 ≤ D) (hD : D ≤ 8) {A : Nat → Prop} (hA : wr_Y ((D - 2) * 255) st A) {w : Nat} (hw : w < 255) (hp : post (wr_d (A (w + 1)))) : wpY_inSecond post (nI D, nI T, nI N, st, le, sl, fr) (nI w) := by
  have hx := wr_ix (o := (D - 2) * 255) (w := w) (n := 2040) (by omega) (by decide)
  unfold wpY_inSecond
  dsimp only
  rw [wr_o2 hD2, hx.2, hA w hw]
  exact ⟨hx.1, wr_dn _, hp⟩
theorem wr_hb {c p : Nat} (h1 : 1 ≤ c) (h2 : c < 256) : 1 ≤ c / 2 ^ (Nat.log2 c - p) ∧ c / 2 ^ (Nat.log2 c - p) < 256 ∧ 1 ≤ 2 ^ (Nat.log2 c - p) + c % 2 ^ (Nat.log2 c - p) ∧ 2 ^ (Nat.log2 c - p) + c % 2 ^ (Nat.log2 c - p) < 256 := by
  have hl := wr_lgN (N := 7) h1 h2
  exact ⟨wr_hd1 h1 (by omega), Nat.lt_of_le_of_lt (Nat.div_le_self _ _) h2, wr_tl1 _ _, Nat.lt_of_lt_of_le (wr_tlt _ _) (wr_256 (N := Nat.log2 c - p) (by omega))⟩
theorem wy_splits {post : Int32 → Prop} (hD2 : 2 ≤ D) (hD : D ≤ 8) {A B : Nat → Prop} (hA : wr_Y ((D - 2) * 255) st A) (hB : wr_Y ((D - 1) * 255) st B) {w : Nat} (hw : w < 255) (hp : post (wr_d (wr_Cat A B (w + 1)))) : wpY_splits post (nI D, nI T, nI N, st, le, sl, fr) (nI w) := by
  have hl := wr_lgN (c := w + 1) (N := 7) (by omega) (show w + 1 < 256 by omega)
  unfold wpY_splits
  dsimp only
  refine wy_lenOf hw ?_
  refine ⟨_, wr_srch (fun n p => wY_splits_8 post (nI w) (nI (Nat.log2 (w + 1))) (nI D) (nI T) (nI N) st le sl fr n (nI p)) (fun p => A ((w + 1) / 2 ^ (Nat.log2 (w + 1) - p)) ∧ B (2 ^ (Nat.log2 (w + 1) - p) + (w + 1) % 2 ^ (Nat.log2 (w + 1) - p))) (p1 := post 1) (p0 := post 0) 0 (Nat.log2 (w + 1) + 1) (Nat.zero_le _) ?_ ?_ ?_ ?_⟩
  · intro ⟨p, _, h1, h2⟩
    rw [wr_dt (p := wr_Cat A B (w + 1)) ⟨_, Nat.sub_le _ p, h2⟩] at hp
    exact hp
  · intro h
    rw [wr_df (p := wr_Cat A B (w + 1)) (fun ⟨t, h1, h2⟩ => h ⟨Nat.log2 (w + 1) - t, Nat.zero_le _, by omega, by rw [show Nat.log2 (w + 1) - (Nat.log2 (w + 1) - t) = t by omega]; exact h2⟩)] at hp
    exact hp
  · exact fun h n => br_t (nI_lt (Nat.lt_succ_self _) (by omega)) h
  · intro n p _ hpl k1 k2
    have hb := wr_hb (c := w + 1) (p := p) (by omega) (by omega)
    generalize hx : (w + 1) / 2 ^ (Nat.log2 (w + 1) - p) = x at hb k1 k2
    generalize hy : 2 ^ (Nat.log2 (w + 1) - p) + (w + 1) % 2 ^ (Nat.log2 (w + 1) - p) = y at hb k1 k2
    obtain ⟨x, rfl⟩ : ∃ z, x = z + 1 := ⟨x - 1, by omega⟩
    obtain ⟨y, rfl⟩ : ∃ z, y = z + 1 := ⟨y - 1, by omega⟩
    refine br_f (nI_nlt (by omega) (by omega)) (wy_prefix hw (by omega) (wy_suffix hw (by omega) ?_))
    rw [hx, hy, Nat.add_sub_cancel, Nat.add_sub_cancel]
    exact wy_inSecond hD2 hD hA (by omega) (wr_cb (fun q => nm_r (nI_1 p) (k2 fun z => q z.1)) (fun q => wy_inTop (by omega) hD hB (by omega) (wr_cb (fun q2 => nm_r (nI_1 p) (k2 fun z => q2 z.2)) (fun q2 => k1 ⟨q, q2⟩))))
theorem wy_drop {post : Int32 → SY → Prop} (hD2 : 2 ≤ D) (hD : D ≤ 8) {G : Nat → Prop} (hf : wr_f 255 fr G) (hp : ∀ a, wr_Y ((D - 2) * 255) a G → (∀ j, j < (D - 2) * 255 → a j = st j) → post (nI (D - 1)) (nI (D - 1), nI T, nI N, a, upd le (D - 2) (le (D - 2) + le (D - 1)), sl, fr)) : wpY_dropPair post (nI D, nI T, nI N, st, le, sl, fr) := by
  have e1 : nI D - 1 = nI (D - 1) := wr_sub1 (by omega)
  have e2 : nI D - 2 = nI (D - 2) := pk_sub (b := 2) hD2
  unfold wpY_dropPair
  dsimp only
  rw [e1, e2, nI_clamp (by omega), nI_clamp (by omega)]
  exact ⟨vp_in_nI (by omega) (by decide), vp_in_nI (by omega) (by decide), vp_in_nI (by omega) (by decide), nm_e (nm_e (wy_toTop (by omega) (by omega) hf hp))⟩
theorem wy_cat {post : Int32 → SY → Prop} (hD2 : 2 ≤ D) (hD : D ≤ 8) {A B : Nat → Prop} (hA : wr_Y ((D - 2) * 255) st A) (hB : wr_Y ((D - 1) * 255) st B)
    (hp : ∀ a f, wr_Y ((D - 2) * 255) a (wr_Cat A B) → (∀ j, j < (D - 2) * 255 → a j = st j) → post (nI (D - 1)) (nI (D - 1), nI T, nI N, a, upd le (D - 2) (le (D - 2) + le (D - 1)), sl, f)) : wpY_cat post (nI D, nI T, nI N, st, le, sl, fr) := by
  refine br_t (nI_le (a := 2) hD2 (by omega)) (pk_loop (fun n i f => wY_cat_13 post (nI D) (nI T) (nI N) n (nI i) st le sl f) (fun i f => wr_f i f (wr_Cat A B)) 255 0 fr (by decide) wr_f_0 ?_ ?_)
  · exact fun n f h => br_t (nI_le (a := 255) (b := 255) (Nat.le_refl _) (by decide)) (wy_drop hD2 hD h (fun a h1 h2 => hp a f h1 h2))
  · intro n i f hi h hk
    refine br_f (nI_ge (b := 255) hi (by decide)) (wy_splits hD2 hD hA hB hi ⟨vp_in_nI hi (by decide), nm_r (e' := upd f i (wr_d (wr_Cat A B (i + 1)))) ?_ (nm_r (nI_1 i) (hk _ (wr_f_s h)))⟩)
    rw [wr_dv, nI_clamp (by omega)]
theorem wy_alt {post : Int32 → SY → Prop} (hD2 : 2 ≤ D) (hD : D ≤ 8) {A B : Nat → Prop} (hA : wr_Y ((D - 2) * 255) st A) (hB : wr_Y ((D - 1) * 255) st B)
    (hp : ∀ a f, wr_Y ((D - 2) * 255) a (fun c => A c ∨ B c) → (∀ j, j < (D - 2) * 255 → a j = st j) → post (nI (D - 1)) (nI (D - 1), nI T, nI N, a, upd le (D - 2) (le (D - 2) + le (D - 1)), sl, f)) : wpY_alt post (nI D, nI T, nI N, st, le, sl, fr) := by
  refine br_t (nI_le (a := 2) hD2 (by omega)) (pk_loop (fun n i f => wY_alt_13 post (nI D) (nI T) (nI N) n (nI i) st le sl f) (fun i f => wr_f i f (fun c => A c ∨ B c)) 255 0 fr (by decide) wr_f_0 ?_ ?_)
  · exact fun n f h => br_t (nI_le (a := 255) (b := 255) (Nat.le_refl _) (by decide)) (wy_drop hD2 hD h (fun a h1 h2 => hp a f h1 h2))
  · intro n i f hi h hk
    have hn : wY_alt_13 post (nI D) (nI T) (nI N) n (nI (i + 1)) st le sl (upd f i (wr_d (A (i + 1) ∨ B (i + 1)))) := hk _ (wr_f_s h)
    have hc : (nI i).toNatClampNeg = i := nI_clamp (by omega)
    refine br_f (nI_ge (b := 255) hi (by decide)) (wy_inSecond hD2 hD hA hi (wr_cb (fun q => wy_inTop (by omega) hD hB hi (wr_cb (fun q2 => ⟨vp_in_nI hi (by decide), nm_r (e' := upd f i (wr_d (A (i + 1) ∨ B (i + 1)))) ?_ (nm_r (nI_1 i) hn)⟩) (fun q2 => ⟨vp_in_nI hi (by decide), nm_r (e' := upd f i (wr_d (A (i + 1) ∨ B (i + 1)))) ?_ (nm_r (nI_1 i) hn)⟩))) (fun q => ⟨vp_in_nI hi (by decide), nm_r (e' := upd f i (wr_d (A (i + 1) ∨ B (i + 1)))) ?_ (nm_r (nI_1 i) hn)⟩)))
    · rw [hc, wr_v0, wr_df (fun z => z.elim q q2)]
    · rw [hc, wr_v1, wr_dt (Or.inr q2)]
    · rw [hc, wr_v1, wr_dt (Or.inl q)]
theorem wy_chains {post : Int32 → Prop} (hD1 : 1 ≤ D) (hD : D ≤ 8) {A G : Nat → Prop} (hA : wr_Y ((D - 1) * 255) st A) {w : Nat} (hw1 : 1 ≤ w) (hw : w < 255) (hf : wr_f w fr G) (hp : post (wr_d (wr_C A G (w + 1)))) : wpY_chains post (nI D, nI T, nI N, st, le, sl, fr) (nI w) := by
  have hl := wr_lgN (c := w + 1) (N := 7) (by omega) (show w + 1 < 256 by omega)
  have hl1 : 1 ≤ Nat.log2 (w + 1) := (Nat.le_log2 (by omega)).mpr (by omega)
  have hg1 := wr_lg1 (c := w + 1) (by omega)
  unfold wpY_chains
  dsimp only
  refine wy_lenOf hw ?_
  refine ⟨_, wr_srch (fun n p => wY_chains_8 post (nI w) (nI (Nat.log2 (w + 1))) (nI D) (nI T) (nI N) st le sl fr n (nI p)) (fun p => A ((w + 1) / 2 ^ (Nat.log2 (w + 1) - p)) ∧ (p = Nat.log2 (w + 1) ∨ G (2 ^ (Nat.log2 (w + 1) - p) + (w + 1) % 2 ^ (Nat.log2 (w + 1) - p)))) (p1 := post 1) (p0 := post 0) 1 (Nat.log2 (w + 1) + 1) (by omega) ?_ ?_ ?_ ?_⟩
  · intro ⟨p, h0, h1, h2, h3⟩
    have z : wr_C A G (w + 1) := by
      by_cases e : p = Nat.log2 (w + 1)
      · rw [e, Nat.sub_self, Nat.pow_zero, Nat.div_one] at h2
        exact Or.inl h2
      · exact Or.inr ⟨_, by omega, by omega, h2, h3.elim (fun y => absurd y e) id⟩
    rw [wr_dt z] at hp
    exact hp
  · intro h
    have z : ¬ wr_C A G (w + 1) := by
      intro y
      rcases y with y | ⟨t, h0, h1, h2, h3⟩
      · exact h ⟨Nat.log2 (w + 1), hl1, Nat.lt_succ_self _, by rw [Nat.sub_self, Nat.pow_zero, Nat.div_one]; exact y, Or.inl rfl⟩
      · exact h ⟨Nat.log2 (w + 1) - t, by omega, by omega, by rw [show Nat.log2 (w + 1) - (Nat.log2 (w + 1) - t) = t by omega]; exact ⟨h2, Or.inr h3⟩⟩
    rw [wr_df z] at hp
    exact hp
  · exact fun h n => br_t (nI_lt (Nat.lt_succ_self _) (by omega)) h
  · intro n p hp1 hpl k1 k2
    have hb := wr_hb (c := w + 1) (p := p) (by omega) (by omega)
    have ht := wr_tlt (w + 1) (Nat.log2 (w + 1) - p)
    have ht2 := wr_pw (show Nat.log2 (w + 1) - p + 1 ≤ Nat.log2 (w + 1) by omega)
    generalize hx : (w + 1) / 2 ^ (Nat.log2 (w + 1) - p) = x at hb k1 k2
    generalize hy : 2 ^ (Nat.log2 (w + 1) - p) + (w + 1) % 2 ^ (Nat.log2 (w + 1) - p) = y at hb k1 k2 ht
    obtain ⟨x, rfl⟩ : ∃ z, x = z + 1 := ⟨x - 1, by omega⟩
    obtain ⟨y, rfl⟩ : ∃ z, y = z + 1 := ⟨y - 1, by omega⟩
    refine br_f (nI_nlt (by omega) (by omega)) (wy_prefix hw (by omega) (wy_suffix hw (by omega) ?_))
    rw [hx, hy, Nat.add_sub_cancel, Nat.add_sub_cancel]
    refine wy_inTop hD1 hD hA (by omega) (wr_cb (fun q => nm_r (nI_1 p) (k2 fun z => q z.1)) (fun q => pk_eq p (Nat.log2 (w + 1)) (fun e => k1 ⟨q, Or.inl e⟩) (fun e => ⟨vp_in_nI (by omega) (by decide), ?_⟩)))
    rw [nI_clamp (by omega), hf y (by omega)]
    exact wr_cb (fun q2 => nm_r (nI_1 p) (k2 fun z => z.2.elim e q2)) (fun q2 => k1 ⟨q, Or.inr q2⟩)
theorem wy_repeated {post : Int32 → SY → Prop} (hD1 : 1 ≤ D) (hD : D ≤ 8) {A G : Nat → Prop} {e : Prop} (hA : wr_Y ((D - 1) * 255) st A) (hG1 : G 1 ↔ e) (hG : ∀ c, 2 ≤ c → (G c ↔ wr_C A G c))
    (hp : ∀ a f, wr_Y ((D - 1) * 255) a G → (∀ j, j < (D - 1) * 255 → a j = st j) → post (nI D) (nI D, nI T, nI N, a, le, sl, f)) : wpY_repeated post (nI D, nI T, nI N, st, le, sl, fr) (wr_d e) := by
  unfold wpY_repeated
  dsimp only
  refine nm_r (e' := upd fr 0 (wr_d (G (0 + 1)))) (by rw [wr_dv, wr_dc hG1]) ?_
  refine pk_loop (fun n i f => wY_repeated_9 post (nI D) (nI T) (nI N) n (nI i) st le sl f) (fun i f => 1 ≤ i ∧ wr_f i f G) 255 1 _ (by decide) ⟨Nat.le_refl 1, wr_f_s wr_f_0⟩ ?_ ?_
  · exact fun n f h => br_t (nI_le (a := 255) (b := 255) (Nat.le_refl _) (by decide)) (wy_toTop hD1 hD h.2 (fun a h1 h2 => hp a f h1 h2))
  · intro n i f hi ⟨h1, h⟩ hk
    refine br_f (nI_ge (b := 255) hi (by decide)) (wy_chains hD1 hD hA h1 hi h ⟨vp_in_nI hi (by decide), nm_r (e' := upd f i (wr_d (G (i + 1)))) ?_ (nm_r (nI_1 i) (hk _ ⟨by omega, wr_f_s h⟩))⟩)
    rw [wr_dv, nI_clamp (by omega), wr_dc (hG (i + 1) (by omega))]
theorem wy_star {post : Int32 → SY → Prop} (hD1 : 1 ≤ D) (hD : D ≤ 8) {A : Nat → Prop} (hA : wr_Y ((D - 1) * 255) st A)
    (hp : ∀ a f, wr_Y ((D - 1) * 255) a (fun c => c = 1 ∨ wr_P A c) → (∀ j, j < (D - 1) * 255 → a j = st j) → post (nI D) (nI D, nI T, nI N, a, le, sl, f)) : wpY_star post (nI D, nI T, nI N, st, le, sl, fr) := by
  refine br_f (nI_ne0 hD1 (by omega)) ?_
  have g := wy_repeated (post := post) (N := N) (T := T) (le := le) (sl := sl) (fr := fr) (e := True) hD1 hD hA (G := fun c => c = 1 ∨ wr_P A c) ⟨fun _ => trivial, fun _ => Or.inl rfl⟩ ?_ hp
  · rw [wr_T] at g
    exact g
  · intro c hc
    have z : ∀ t, 1 ≤ t → ((2 ^ t + c % 2 ^ t = 1 ∨ wr_P A (2 ^ t + c % 2 ^ t)) ↔ wr_P A (2 ^ t + c % 2 ^ t)) := fun t ht =>
      ⟨fun y => y.elim (fun x => absurd x (by have := wr_pw ht; omega)) id, Or.inr⟩
    constructor
    · intro y
      rcases wr_Pe (y.elim (fun x => absurd x (by omega)) id) with y | ⟨t, h0, h1, h2, h3⟩
      · exact Or.inl y
      · exact Or.inr ⟨t, h0, h1, h2, (z t h0).mpr h3⟩
    · intro y
      refine Or.inr (wr_Pi ?_)
      rcases y with y | ⟨t, h0, h1, h2, h3⟩
      · exact Or.inl y
      · exact Or.inr ⟨t, h0, h1, h2, (z t h0).mp h3⟩
theorem wy_plus {post : Int32 → SY → Prop} (hD1 : 1 ≤ D) (hD : D ≤ 8) {A : Nat → Prop} (hA : wr_Y ((D - 1) * 255) st A)
    (hp : ∀ a f, wr_Y ((D - 1) * 255) a (wr_P A) → (∀ j, j < (D - 1) * 255 → a j = st j) → post (nI D) (nI D, nI T, nI N, a, le, sl, f)) : wpY_plus post (nI D, nI T, nI N, st, le, sl, fr) := by
  refine br_f (nI_ne0 hD1 (by omega)) (wy_inTop (w := 0) hD1 hD hA (by decide) ?_)
  exact wy_repeated hD1 hD hA (wr_P1 (c := 1) (by decide)) (fun c _ => wr_Pf) hp
theorem wy_opt {post : Int32 → SY → Prop} (hD1 : 1 ≤ D) (hD : D ≤ 8) {A : Nat → Prop} (hA : wr_Y ((D - 1) * 255) st A)
    (hp : ∀ a, wr_Y ((D - 1) * 255) a (fun c => c = 1 ∨ A c) → (∀ j, j < (D - 1) * 255 → a j = st j) → post (nI D) (nI D, nI T, nI N, a, le, sl, fr)) : wpY_opt post (nI D, nI T, nI N, st, le, sl, fr) := by
  refine br_f (nI_ne0 hD1 (by omega)) ?_
  rw [wr_o1 hD1, wr_v1, nI_clamp (by omega)]
  refine ⟨vp_in_nI (by omega) (by decide), nm_e (hp _ ?_ (fun j hj => pk_un (by omega)))⟩
  intro w hw
  by_cases e : w = 0
  · rw [e, Nat.add_zero, pk_us]
    exact (wr_dt (Or.inl rfl)).symm
  · rw [pk_un (by omega), hA w hw]
    exact wr_dc ⟨Or.inr, fun y => y.elim (fun x => absurd x (by omega)) id⟩
theorem wy_mirrored {post : Int32 → Prop} {w : Nat} (hw : w < 255) (hp : post (nI (wr_mi (w + 1) - 1))) : wpY_mirrored post (nI D, nI T, nI N, st, le, sl, fr) (nI w) := by
  have hl := wr_lgN (c := w + 1) (N := 7) (by omega) (show w + 1 < 256 by omega)
  have r := wr_lg1 (c := w + 1) (by omega)
  have p3 := Nat.two_pow_pos (Nat.log2 (w + 1))
  unfold wpY_mirrored
  dsimp only
  refine wy_lenOf hw (nm_r (wr_bits hw) ?_)
  have key : ∀ d i, i + d = Nat.log2 (w + 1) → wY_mirrored_20 post (nI (Nat.log2 (w + 1))) (nI (w + 1 - 2 ^ Nat.log2 (w + 1))) (nI D) (nI T) (nI N) st le sl fr (d + 1) (nI (wr_m (w + 1) i - 2 ^ i)) (nI i) := by
    intro d
    induction d with
    | zero =>
      intro i hi
      have e : i = Nat.log2 (w + 1) := by omega
      have b := wr_mb (w + 1) i
      refine br_t (nI_le (by omega) (by omega)) ?_
      rw [wr_st (by omega), ← e, show 2 ^ i + (wr_m (w + 1) i - 2 ^ i) - 1 = wr_m (w + 1) i - 1 by omega, e]
      exact hp
    | succ d ih =>
      intro i hi
      have b := wr_mb (w + 1) i
      have b2 := wr_mb (w + 1) (i + 1)
      have y := wr_y3 r (show i < Nat.log2 (w + 1) by omega)
      have e1 : 2 ^ (i + 1) = 2 ^ i * 2 := Nat.pow_succ ..
      have e2 : nI (wr_m (w + 1) i - 2 ^ i) * 2 = nI ((wr_m (w + 1) i - 2 ^ i) * 2) := pk_mul _ 2
      have e3 : (w + 1 - 2 ^ Nat.log2 (w + 1)) / 2 ^ i ≤ w + 1 - 2 ^ Nat.log2 (w + 1) := Nat.div_le_self _ _
      have e4 : wr_m (w + 1) (i + 1) = wr_m (w + 1) i * 2 + (w + 1) / 2 ^ i % 2 := rfl
      refine br_f (nI_ge (by omega) (by omega)) (nm_r (e' := nI (wr_m (w + 1) (i + 1) - 2 ^ (i + 1))) ?_ (nm_r (nI_1 i) (ih (i + 1) (by omega))))
      rw [e2, wr_shr (by omega) (by omega), wr_and1 (Nat.lt_of_le_of_lt e3 (by omega)), y, nI_add]
      refine congrArg nI ?_
      generalize (w + 1) / 2 ^ i % 2 = x at e4 ⊢
      omega
  exact Exists.intro _ (key _ 0 (Nat.zero_add _))
theorem wy_reverse {post : Int32 → SY → Prop} (hD1 : 1 ≤ D) (hD : D ≤ 8) {A : Nat → Prop} (hA : wr_Y ((D - 1) * 255) st A)
    (hp : ∀ a f, wr_Y ((D - 1) * 255) a (fun c => A (wr_mi c)) → (∀ j, j < (D - 1) * 255 → a j = st j) → post (nI D) (nI D, nI T, nI N, a, le, sl, f)) : wpY_reverse post (nI D, nI T, nI N, st, le, sl, fr) := by
  refine br_f (nI_ne0 hD1 (by omega)) (pk_loop (fun n i f => wY_reverse_12 post (nI D) (nI T) (nI N) n (nI i) st le sl f) (fun i f => wr_f i f (fun c => A (wr_mi c))) 255 0 fr (by decide) wr_f_0 ?_ ?_)
  · exact fun n f h => br_t (nI_le (a := 255) (b := 255) (Nat.le_refl _) (by decide)) (wy_toTop hD1 hD h (fun a h1 h2 => hp a f h1 h2))
  · intro n i f hi h hk
    have b1 := wr_mi1 (i + 1)
    have b2 := wr_miM (c := i + 1) (N := 7) (by omega) (show i + 1 < 256 by omega)
    obtain ⟨m, hm⟩ : ∃ m, wr_mi (i + 1) = m + 1 := ⟨wr_mi (i + 1) - 1, by omega⟩
    refine br_f (nI_ge (b := 255) hi (by decide)) (wy_mirrored hi ?_)
    rw [hm, Nat.add_sub_cancel]
    refine wy_inTop hD1 hD hA (w := m) (by omega) ⟨vp_in_nI hi (by decide), nm_r (e' := upd f i (wr_d (A (wr_mi (i + 1))))) ?_ (nm_r (nI_1 i) (hk _ (wr_f_s h)))⟩
    rw [wr_dv, nI_clamp (by omega), hm]
theorem wy_store {post : Int32 → SY → Prop} (hD1 : 1 ≤ D) (hD : D ≤ 8) {j : Nat} (hj : j < 3) {A : Nat → Prop} (hA : wr_Y ((D - 1) * 255) st A)
    (hp : ∀ a, wr_Y (j * 255) a A → (∀ k, k < j * 255 → a k = sl k) → (∀ k, j * 255 + 255 ≤ k → a k = sl k) → post (nI (D - 1)) (nI (D - 1), nI T, nI N, st, le, a, fr)) : wpY_store post (nI D, nI T, nI N, st, le, sl, fr) (nI j) := by
  refine br_f (nI_pos (by omega)) (br_t (nI_le (b := 2) (by omega) (by decide)) (br_f (nI_ne0 hD1 (by omega)) ?_))
  refine pk_loop (fun n i a => wY_store_23 post (nI j) (nI D) (nI T) (nI N) n (nI i) st le a fr) (fun i a => (∀ w, w < i → a (j * 255 + w) = wr_d (A (w + 1))) ∧ (∀ k, k < j * 255 → a k = sl k) ∧ (∀ k, j * 255 + 255 ≤ k → a k = sl k)) 255 0 sl (by decide) ⟨fun w h => absurd h (Nat.not_lt_zero w), fun _ _ => rfl, fun _ _ => rfl⟩ ?_ ?_
  · exact fun n a h => br_t (nI_le (a := 255) (b := 255) (Nat.le_refl _) (by decide)) (nm_r (wr_sub1 hD1) (hp a h.1 h.2.1 h.2.2))
  · intro n i a hi ⟨h1, h2, h3⟩ hk
    have hx := wr_ix (o := j * 255) (w := i) (n := 765) (by omega) (by decide)
    have e : nI j * 255 = nI (j * 255) := pk_mul j 255
    refine br_f (nI_ge (b := 255) hi (by decide)) (wy_inTop hD1 hD hA hi ?_)
    rw [e, hx.2, wr_dv]
    refine ⟨hx.1, nm_e (nm_r (nI_1 i) (hk _ ⟨?_, fun k hk => (pk_un (by omega)).trans (h2 k hk), fun k hk => (pk_un (by omega)).trans (h3 k hk)⟩))⟩
    intro w hw
    by_cases e : w = i
    · rw [e, pk_us]
    · rw [pk_un (by omega)]
      exact h1 w (by omega)
end
end
section
/-! 08: the relation, and how the makers keep it -/
def wr_ok (N D T : Nat) (L : Nat → Nat) : Prop := 1 ≤ N ∧ N ≤ 7 ∧ D ≤ 8 ∧ T ≤ 255 ∧ wr_s L D ≤ 12
def wr_RX (N D : Nat) (L : Nat → Nat) (A S : Nat → Nat → Prop) (st le sl : Nat → Int32) : Prop :=
  (∀ i, i < D → le i = nI (L i)) ∧ (∀ i, i < D → wr_X (2 ^ (N + 1)) (i * 256) st (A i)) ∧ (∀ i, i < 3 → wr_X (2 ^ (N + 1)) (i * 256) sl (S i))
def wr_RY (D : Nat) (L : Nat → Nat) (A S : Nat → Nat → Prop) (st le sl : Nat → Int32) : Prop :=
  (∀ i, i < D → le i = nI (L i)) ∧ (∀ i, i < D → wr_Y (i * 255) st (A i)) ∧ (∀ i, i < 3 → wr_Y (i * 255) sl (S i))
/-- both states picture one stack of languages, three slots, one table, one N -/
def i_Rel (_ : Nat) (u : SX) (v : SY) : Prop :=
  ∃ (N D T : Nat) (L : Nat → Nat) (A S : Nat → Nat → Prop) (sx lx ox sy ly oy fy : Nat → Int32), wr_ok N D T L ∧ u = (nI N, nI D, nI T, sx, lx, ox) ∧ v = (nI D, nI T, nI N, sy, ly, oy, fy) ∧ wr_RX N D L A S sx lx ox ∧ wr_RY D L A S sy ly oy
theorem i_up {k : Nat} {u : SX} {v : SY} (h : i_Rel k u v) : i_Rel (k + 3) u v := h
section
variable {N D T k : Nat} {L : Nat → Nat} {A S : Nat → Nat → Prop} {st le sl a b fy : Nat → Int32} {G : Nat → Prop}
theorem wr_mk {sx lx ox sy ly oy : Nat → Int32} (h : wr_ok N D T L) (hx : wr_RX N D L A S sx lx ox) (hy : wr_RY D L A S sy ly oy) : i_Rel k (nI N, nI D, nI T, sx, lx, ox) (nI D, nI T, nI N, sy, ly, oy, fy) :=
  ⟨N, D, T, L, A, S, sx, lx, ox, sy, ly, oy, fy, h, rfl, rfl, hx, hy⟩
theorem wr_lep {p : Nat} (h : ∀ i, i < D → le i = nI (L i)) (h3 : ∀ i, i < D → b i = le i) (h4 : b D = nI p) : ∀ i, i < D + 1 → b i = nI (wr_u L D p i) := by
  intro i hi
  by_cases e : i = D
  · rw [e, wr_us]
    exact h4
  · rw [wr_un e, h3 i (by omega)]
    exact h i (by omega)
theorem wr_RXp {p : Nat} (hN : N ≤ 7) (h : wr_RX N D L A S st le sl) (h1 : wr_X (2 ^ (N + 1)) (D * 256) a G) (h2 : ∀ j, j < D * 256 → a j = st j) (h3 : ∀ i, i < D → b i = le i) (h4 : b D = nI p) : wr_RX N (D + 1) (wr_u L D p) (wr_u A D G) S a b sl := by
  have hM := wr_256 hN
  refine ⟨wr_lep h.1 h3 h4, fun i hi => ?_, h.2.2⟩
  by_cases e : i = D
  · rw [e, wr_us]
    exact h1
  · rw [wr_un e]
    exact wr_Xk (h.2.1 i (by omega)) fun c _ hc => h2 _ (by omega)
theorem wr_RYp {p : Nat} (h : wr_RY D L A S st le sl) (h1 : wr_Y (D * 255) a G) (h2 : ∀ j, j < D * 255 → a j = st j) (h3 : ∀ i, i < D → b i = le i) (h4 : b D = nI p) : wr_RY (D + 1) (wr_u L D p) (wr_u A D G) S a b sl := by
  refine ⟨wr_lep h.1 h3 h4, fun i hi => ?_, h.2.2⟩
  by_cases e : i = D
  · rw [e, wr_us]
    exact h1
  · rw [wr_un e]
    exact fun w hw => (h2 _ (by omega)).trans (h.2.1 i (by omega) w hw)
theorem wr_RXs (hN : N ≤ 7) (hD : 1 ≤ D) (h : wr_RX N D L A S st le sl) (h1 : wr_X (2 ^ (N + 1)) ((D - 1) * 256) a G) (h2 : ∀ j, j < (D - 1) * 256 → a j = st j) : wr_RX N D L (wr_u A (D - 1) G) S a le sl := by
  have hM := wr_256 hN
  refine ⟨h.1, fun i hi => ?_, h.2.2⟩
  by_cases e : i = D - 1
  · rw [e, wr_us]
    exact h1
  · rw [wr_un e]
    exact wr_Xk (h.2.1 i hi) fun c _ hc => h2 _ (by omega)
theorem wr_RYs (hD : 1 ≤ D) (h : wr_RY D L A S st le sl) (h1 : wr_Y ((D - 1) * 255) a G) (h2 : ∀ j, j < (D - 1) * 255 → a j = st j) : wr_RY D L (wr_u A (D - 1) G) S a le sl := by
  refine ⟨h.1, fun i hi => ?_, h.2.2⟩
  by_cases e : i = D - 1
  · rw [e, wr_us]
    exact h1
  · rw [wr_un e]
    exact fun w hw => (h2 _ (by omega)).trans (h.2.1 i hi w hw)
theorem wr_lem (hD : 2 ≤ D) (h : ∀ i, i < D → le i = nI (L i)) : ∀ i, i < D - 1 → upd le (D - 2) (le (D - 2) + le (D - 1)) i = nI (wr_u L (D - 2) (L (D - 2) + L (D - 1)) i) := by
  intro i hi
  by_cases e : i = D - 2
  · rw [e, wr_us, pk_us, h _ (by omega), h _ (by omega), nI_add]
  · rw [wr_un e, pk_un e]
    exact h i (by omega)
theorem wr_RXm (hN : N ≤ 7) (hD : 2 ≤ D) (h : wr_RX N D L A S st le sl) (h1 : wr_X (2 ^ (N + 1)) ((D - 2) * 256) a G) (h2 : ∀ j, j < (D - 2) * 256 → a j = st j) : wr_RX N (D - 1) (wr_u L (D - 2) (L (D - 2) + L (D - 1))) (wr_u A (D - 2) G) S a (upd le (D - 2) (le (D - 2) + le (D - 1))) sl := by
  have hM := wr_256 hN
  refine ⟨wr_lem hD h.1, fun i hi => ?_, h.2.2⟩
  by_cases e : i = D - 2
  · rw [e, wr_us]
    exact h1
  · rw [wr_un e]
    exact wr_Xk (h.2.1 i (by omega)) fun c _ hc => h2 _ (by omega)
theorem wr_RYm (hD : 2 ≤ D) (h : wr_RY D L A S st le sl) (h1 : wr_Y ((D - 2) * 255) a G) (h2 : ∀ j, j < (D - 2) * 255 → a j = st j) : wr_RY (D - 1) (wr_u L (D - 2) (L (D - 2) + L (D - 1))) (wr_u A (D - 2) G) S a (upd le (D - 2) (le (D - 2) + le (D - 1))) sl := by
  refine ⟨wr_lem hD h.1, fun i hi => ?_, h.2.2⟩
  by_cases e : i = D - 2
  · rw [e, wr_us]
    exact h1
  · rw [wr_un e]
    exact fun w hw => (h2 _ (by omega)).trans (h.2.1 i (by omega) w hw)
theorem wr_RXt {j : Nat} (hN : N ≤ 7) (h : wr_RX N D L A S st le sl) (h1 : wr_X (2 ^ (N + 1)) (j * 256) a G) (h2 : wr_fr (j * 256) sl a) : wr_RX N (D - 1) L A (wr_u S j G) st le a := by
  have hM := wr_256 hN
  refine ⟨fun i hi => h.1 i (by omega), fun i hi => h.2.1 i (by omega), fun i hi => ?_⟩
  by_cases e : i = j
  · rw [e, wr_us]
    exact h1
  · rw [wr_un e]
    refine wr_Xk (h.2.2 i hi) fun c _ hc => ?_
    by_cases e2 : i < j
    · exact h2.1 _ (by omega)
    · exact h2.2 _ (by omega)
theorem wr_RYt {j : Nat} (h : wr_RY D L A S st le sl) (h1 : wr_Y (j * 255) a G) (h2 : ∀ k, k < j * 255 → a k = sl k) (h3 : ∀ k, j * 255 + 255 ≤ k → a k = sl k) : wr_RY (D - 1) L A (wr_u S j G) st le a := by
  refine ⟨fun i hi => h.1 i (by omega), fun i hi => h.2.1 i (by omega), fun i hi => ?_⟩
  by_cases e : i = j
  · rw [e, wr_us]
    exact h1
  · rw [wr_un e]
    intro w hw
    by_cases e2 : i < j
    · exact (h2 _ (by omega)).trans (h.2.2 i hi w hw)
    · exact (h3 _ (by omega)).trans (h.2.2 i hi w hw)
theorem wr_okp {p : Nat} (h : wr_ok N D T L) (hD : D < 8) (hs : wr_s L D + p ≤ 12) : wr_ok N (D + 1) T (wr_u L D p) := by
  refine ⟨h.1, h.2.1, hD, h.2.2.2.1, ?_⟩
  show wr_s (wr_u L D p) D + wr_u L D p D ≤ 12
  rw [wr_us, wr_s_cg (M := L) D (fun i hi => wr_un (by omega))]
  exact hs
theorem wr_okm (h : wr_ok N D T L) (hD : 2 ≤ D) : wr_ok N (D - 1) T (wr_u L (D - 2) (L (D - 2) + L (D - 1))) := by
  have h5 := h.2.2.2.2
  refine ⟨h.1, h.2.1, by have := h.2.2.1; omega, h.2.2.2.1, ?_⟩
  obtain ⟨e, rfl⟩ : ∃ e, D = e + 2 := ⟨D - 2, by omega⟩
  have g : wr_s L (e + 2) = wr_s L e + L e + L (e + 1) := rfl
  show wr_s (wr_u L e (L e + L (e + 1))) e + wr_u L e (L e + L (e + 1)) e ≤ 12
  rw [wr_us, wr_s_cg (M := L) e (fun i hi => wr_un (by omega))]
  omega
theorem wr_okt (h : wr_ok N D T L) : wr_ok N (D - 1) T L := by
  have h5 := h.2.2.2.2
  have h6 := wr_s_mono L (show D - 1 ≤ D by omega)
  exact ⟨h.1, h.2.1, by have := h.2.2.1; omega, h.2.2.2.1, by omega⟩
end
end
section
/-! 09: what is owed -/
section
variable {N D T : Nat} {st le sl : Nat → Int32}
theorem wx_unitG {post : Int32 → SX → Prop} (hN : N ≤ 7) (hD : D < 8) (hp : ∀ a, wr_X (2 ^ (N + 1)) (D * 256) a (fun c => c = 1) → (∀ j, j < D * 256 → a j = st j) → post (nI (D + 1)) (nI N, nI (D + 1), nI T, a, upd le D 0, sl)) : wpX_unit post (nI N, nI D, nI T, st, le, sl) := by
  refine br_t (nI_lt (b := 8) hD (by decide)) (wx_push hN hD fun a h1 h2 => wx_addE (D := D + 1) (by omega) (by omega) ?_)
  rw [Nat.add_sub_cancel]
  exact hp _ (wr_Xc (wr_addE h1) fun c _ _ => ⟨Or.inl, fun z => z.elim id False.elim⟩) (fun j hj => (pk_un (by omega)).trans (h2 j hj))
theorem wx_noneG {post : Int32 → SX → Prop} (hN : N ≤ 7) (hD : D < 8) (hp : ∀ a, wr_X (2 ^ (N + 1)) (D * 256) a (fun _ => False) → (∀ j, j < D * 256 → a j = st j) → post (nI (D + 1)) (nI N, nI (D + 1), nI T, a, upd le D 0, sl)) : wpX_none post (nI N, nI D, nI T, st, le, sl) :=
  br_t (nI_lt (b := 8) hD (by decide)) (wx_push hN hD hp)
theorem wr_b0 (h1 : 1 ≤ N) (h7 : N ≤ 7) : i_Rel 1 (nI N, 0, 170, fun _ => 0, fun _ => 0, fun _ => 0) (0, 170, nI N, fun _ => 0, fun _ => 0, fun _ => 0, fun _ => 0) := by
  have e : wr_ok N 0 170 (fun _ => 0) := ⟨h1, h7, by decide, by decide, Nat.zero_le _⟩
  exact wr_mk (A := fun _ _ => False) (S := fun _ _ => False) e ⟨fun i hi => absurd hi (Nat.not_lt_zero i), fun i hi => absurd hi (Nat.not_lt_zero i), fun i _ c _ _ => wr_Fa.symm⟩ ⟨fun i hi => absurd hi (Nat.not_lt_zero i), fun i hi => absurd hi (Nat.not_lt_zero i), fun i _ c _ => wr_Fa.symm⟩
end
theorem i_vc0 (k0 : Int32) : wpX_init (fun u => wpY_init (fun v => i_Rel 1 u v) k0) k0 := by
  rcases wr_len (N := 7) (Nat.le_refl 7) k0 with (h | ⟨h0, h⟩) | ⟨l, hl, rfl⟩
  · have g : ¬ 1 ≤ k0 := by
      intro z
      rw [Int32.le_iff_toInt_le] at z
      rw [Int32.lt_iff_toInt_lt] at h
      have e0 : (0 : Int32).toInt = 0 := by decide
      have e1 : (1 : Int32).toInt = 1 := by decide
      omega
    exact br_f g (br_f g (wr_b0 (N := 1) (by decide) (by decide)))
  · obtain ⟨j, hj, rfl⟩ := nI_of h0
    have h := (nI_ltI (by decide) hj).mp h
    have g1 : 1 ≤ nI j := nI_le (a := 1) (by omega) hj
    have g7 : ¬ nI j ≤ 7 := nI_ge (a := 7) h hj
    exact br_t g1 (br_f g7 (br_t g1 (br_f g7 (wr_b0 (N := 7) (by decide) (by decide)))))
  · by_cases e : l = 0
    · subst e
      have g : ¬ 1 ≤ nI 0 := nI_ge (b := 1) (by decide) (by decide)
      exact br_f g (br_f g (wr_b0 (N := 1) (by decide) (by decide)))
    · have g1 : 1 ≤ nI l := nI_le (a := 1) (by omega) (by omega)
      have g7 : nI l ≤ 7 := nI_le (b := 7) hl (by decide)
      exact br_t g1 (br_t g7 (br_t g1 (br_t g7 (wr_b0 (by omega) hl))))
theorem i_vc_letter {k : Nat} {u : SX} {v : SY} (I : i_Rel k u v) (hk : k + 3 ≤ 1537) (v1 : Int32) : wpX_letter (fun r u' => wpY_letter (fun r' v' => r' = r ∧ i_Rel (k + 3) u' v') v v1) u v1 := by
  have J := i_up I
  obtain ⟨N, D, T, L, A, S, sx, lx, ox, sy, ly, oy, fy, ok, rfl, rfl, hx, hy⟩ := I
  obtain ⟨hN1, hN, hD, hT, hs⟩ := id ok
  rcases wr_len (N := 2) (by decide) v1 with (h | ⟨h0, h⟩) | ⟨j, hj, rfl⟩
  · exact br_t h (br_t h ⟨rfl, J⟩)
  · have g : ¬ v1 ≤ 2 := Int32.not_le.mpr h
    exact br_f h0 (br_f g (br_f h0 (br_f g ⟨rfl, J⟩)))
  · have g0 : ¬ nI j < 0 := nI_pos (by omega)
    have g2 : nI j ≤ 2 := nI_le (b := 2) hj (by decide)
    by_cases hd : D = 8
    · have e8 : nI D = 8 := by rw [hd]; rfl
      exact br_f g0 (br_t g2 (br_t (nI_le (a := 8) (by omega) (by omega)) (br_f g0 (br_t g2 (br_t e8 ⟨rfl, J⟩)))))
    · have g8 : ¬ nI D = 8 := fun z => hd ((nI_eq (b := 8) (by omega) (by decide)).mp z)
      by_cases h12 : wr_s L D = 12
      · have e12 : nI (wr_s L D) = 12 := by rw [h12]; rfl
        exact br_f g0 (br_t g2 (br_f (nI_ge (b := 8) (by omega) (by decide)) (wx_letters hD hx.1 (br_f (nI_nlt (b := 12) (by omega) (by omega)) (br_f g0 (br_t g2 (br_f g8 (wy_letters hD hy.1 (br_t e12 ⟨rfl, J⟩)))))))))
      · exact wx_letterG hN1 hN (by omega) hx.1 (by omega) (by omega) fun a b h1 h2 h3 h4 => wy_letterG (by omega) hy.1 (by omega) (by omega) fun a' f' g1 g2 => ⟨rfl, wr_mk (wr_okp (p := 1) ok (by omega) (by omega)) (wr_RXp hN hx h1 h2 h3 h4) (wr_RYp hy g1 g2 (fun i hi => pk_un (by omega)) pk_us)⟩
theorem i_vc_unit {k : Nat} {u : SX} {v : SY} (I : i_Rel k u v) (hk : k + 3 ≤ 1537) : wpX_unit (fun r u' => wpY_unit (fun r' v' => r' = r ∧ i_Rel (k + 3) u' v') v) u := by
  have J := i_up I
  obtain ⟨N, D, T, L, A, S, sx, lx, ox, sy, ly, oy, fy, ok, rfl, rfl, hx, hy⟩ := I
  obtain ⟨hN1, hN, hD, hT, hs⟩ := id ok
  by_cases hd : D = 8
  · have e8 : nI D = 8 := by rw [hd]; rfl
    exact br_f (nI_nlt (b := 8) (by omega) (by omega)) (br_t e8 ⟨rfl, J⟩)
  · exact wx_unitG hN (by omega) fun a h1 h2 => wy_unitG (by omega) fun a' f' g1 g2 => ⟨rfl, wr_mk (wr_okp (p := 0) ok (by omega) (by omega)) (wr_RXp hN hx h1 h2 (fun i hi => pk_un (by omega)) pk_us) (wr_RYp hy g1 g2 (fun i hi => pk_un (by omega)) pk_us)⟩
theorem i_vc_none {k : Nat} {u : SX} {v : SY} (I : i_Rel k u v) (hk : k + 3 ≤ 1537) : wpX_none (fun r u' => wpY_none (fun r' v' => r' = r ∧ i_Rel (k + 3) u' v') v) u := by
  have J := i_up I
  obtain ⟨N, D, T, L, A, S, sx, lx, ox, sy, ly, oy, fy, ok, rfl, rfl, hx, hy⟩ := I
  obtain ⟨hN1, hN, hD, hT, hs⟩ := id ok
  by_cases hd : D = 8
  · have e8 : nI D = 8 := by rw [hd]; rfl
    exact br_f (nI_nlt (b := 8) (by omega) (by omega)) (br_t e8 ⟨rfl, J⟩)
  · exact wx_noneG hN (by omega) fun a h1 h2 => wy_noneG (by omega) fun a' f' g1 g2 => ⟨rfl, wr_mk (wr_okp (p := 0) ok (by omega) (by omega)) (wr_RXp hN hx h1 h2 (fun i hi => pk_un (by omega)) pk_us) (wr_RYp hy g1 g2 (fun i hi => pk_un (by omega)) pk_us)⟩
theorem i_vc_cat {k : Nat} {u : SX} {v : SY} (I : i_Rel k u v) (hk : k + 3 ≤ 1537) : wpX_cat (fun r u' => wpY_cat (fun r' v' => r' = r ∧ i_Rel (k + 3) u' v') v) u := by
  have J := i_up I
  obtain ⟨N, D, T, L, A, S, sx, lx, ox, sy, ly, oy, fy, ok, rfl, rfl, hx, hy⟩ := I
  obtain ⟨hN1, hN, hD, hT, hs⟩ := id ok
  by_cases hd : 2 ≤ D
  · exact wx_cat hN hd hD (hx.2.1 _ (by omega)) (hx.2.1 _ (by omega)) fun a h1 h2 => wy_cat hd hD (hy.2.1 _ (by omega)) (hy.2.1 _ (by omega)) fun a' f' g1 g2 => ⟨rfl, wr_mk (wr_okm ok hd) (wr_RXm hN hd hx h1 h2.1) (wr_RYm hd hy g1 g2)⟩
  · have g : ¬ 2 ≤ nI D := nI_ge (b := 2) (by omega) (by decide)
    exact br_f g (br_f g ⟨rfl, J⟩)
theorem i_vc_alt {k : Nat} {u : SX} {v : SY} (I : i_Rel k u v) (hk : k + 3 ≤ 1537) : wpX_alt (fun r u' => wpY_alt (fun r' v' => r' = r ∧ i_Rel (k + 3) u' v') v) u := by
  have J := i_up I
  obtain ⟨N, D, T, L, A, S, sx, lx, ox, sy, ly, oy, fy, ok, rfl, rfl, hx, hy⟩ := I
  obtain ⟨hN1, hN, hD, hT, hs⟩ := id ok
  by_cases hd : 2 ≤ D
  · exact wx_alt hN hd hD (hx.2.1 _ (by omega)) (hx.2.1 _ (by omega)) fun a h1 h2 => wy_alt hd hD (hy.2.1 _ (by omega)) (hy.2.1 _ (by omega)) fun a' f' g1 g2 => ⟨rfl, wr_mk (wr_okm ok hd) (wr_RXm hN hd hx h1 h2.1) (wr_RYm hd hy g1 g2)⟩
  · have g : ¬ 2 ≤ nI D := nI_ge (b := 2) (by omega) (by decide)
    exact br_f g (br_f g ⟨rfl, J⟩)
theorem i_vc_star {k : Nat} {u : SX} {v : SY} (I : i_Rel k u v) (hk : k + 3 ≤ 1537) : wpX_star (fun r u' => wpY_star (fun r' v' => r' = r ∧ i_Rel (k + 3) u' v') v) u := by
  have J := i_up I
  obtain ⟨N, D, T, L, A, S, sx, lx, ox, sy, ly, oy, fy, ok, rfl, rfl, hx, hy⟩ := I
  obtain ⟨hN1, hN, hD, hT, hs⟩ := id ok
  by_cases hd : 1 ≤ D
  · exact wx_star hN1 hN hd hD (hx.2.1 _ (by omega)) fun a h1 h2 => wy_star hd hD (hy.2.1 _ (by omega)) fun a' f' g1 g2 => ⟨rfl, wr_mk ok (wr_RXs hN hd hx h1 h2.1) (wr_RYs hd hy g1 g2)⟩
  · have e0 : nI D = 0 := by rw [show D = 0 by omega]; rfl
    exact br_f (nI_ge (b := 1) (by omega) (by decide)) (br_t e0 ⟨rfl, J⟩)
theorem i_vc_plus {k : Nat} {u : SX} {v : SY} (I : i_Rel k u v) (hk : k + 3 ≤ 1537) : wpX_plus (fun r u' => wpY_plus (fun r' v' => r' = r ∧ i_Rel (k + 3) u' v') v) u := by
  have J := i_up I
  obtain ⟨N, D, T, L, A, S, sx, lx, ox, sy, ly, oy, fy, ok, rfl, rfl, hx, hy⟩ := I
  obtain ⟨hN1, hN, hD, hT, hs⟩ := id ok
  by_cases hd : 1 ≤ D
  · exact wx_plus hN1 hN hd hD (hx.2.1 _ (by omega)) fun a h1 h2 => wy_plus hd hD (hy.2.1 _ (by omega)) fun a' f' g1 g2 => ⟨rfl, wr_mk ok (wr_RXs hN hd hx h1 h2.1) (wr_RYs hd hy g1 g2)⟩
  · have e0 : nI D = 0 := by rw [show D = 0 by omega]; rfl
    exact br_f (nI_ge (b := 1) (by omega) (by decide)) (br_t e0 ⟨rfl, J⟩)
theorem i_vc_opt {k : Nat} {u : SX} {v : SY} (I : i_Rel k u v) (hk : k + 3 ≤ 1537) : wpX_opt (fun r u' => wpY_opt (fun r' v' => r' = r ∧ i_Rel (k + 3) u' v') v) u := by
  have J := i_up I
  obtain ⟨N, D, T, L, A, S, sx, lx, ox, sy, ly, oy, fy, ok, rfl, rfl, hx, hy⟩ := I
  obtain ⟨hN1, hN, hD, hT, hs⟩ := id ok
  by_cases hd : 1 ≤ D
  · exact wx_opt hd hD (hx.2.1 _ (by omega)) fun a h1 h2 => wy_opt hd hD (hy.2.1 _ (by omega)) fun a' g1 g2 => ⟨rfl, wr_mk ok (wr_RXs hN hd hx h1 h2.1) (wr_RYs hd hy g1 g2)⟩
  · have e0 : nI D = 0 := by rw [show D = 0 by omega]; rfl
    exact br_f (nI_ge (b := 1) (by omega) (by decide)) (br_t e0 ⟨rfl, J⟩)
theorem i_vc_reverse {k : Nat} {u : SX} {v : SY} (I : i_Rel k u v) (hk : k + 3 ≤ 1537) : wpX_reverse (fun r u' => wpY_reverse (fun r' v' => r' = r ∧ i_Rel (k + 3) u' v') v) u := by
  have J := i_up I
  obtain ⟨N, D, T, L, A, S, sx, lx, ox, sy, ly, oy, fy, ok, rfl, rfl, hx, hy⟩ := I
  obtain ⟨hN1, hN, hD, hT, hs⟩ := id ok
  by_cases hd : 1 ≤ D
  · exact wx_reverse hN1 hN hd hD (hx.2.1 _ (by omega)) fun a h1 h2 => wy_reverse hd hD (hy.2.1 _ (by omega)) fun a' f' g1 g2 => ⟨rfl, wr_mk ok (wr_RXs hN hd hx h1 h2.1) (wr_RYs hd hy g1 g2)⟩
  · have e0 : nI D = 0 := by rw [show D = 0 by omega]; rfl
    exact br_f (nI_ge (b := 1) (by omega) (by decide)) (br_t e0 ⟨rfl, J⟩)
theorem i_vc_store {k : Nat} {u : SX} {v : SY} (I : i_Rel k u v) (hk : k + 3 ≤ 1537) (v1 : Int32) : wpX_store (fun r u' => wpY_store (fun r' v' => r' = r ∧ i_Rel (k + 3) u' v') v v1) u v1 := by
  have J := i_up I
  obtain ⟨N, D, T, L, A, S, sx, lx, ox, sy, ly, oy, fy, ok, rfl, rfl, hx, hy⟩ := I
  obtain ⟨hN1, hN, hD, hT, hs⟩ := id ok
  rcases wr_len (N := 2) (by decide) v1 with (h | ⟨h0, h⟩) | ⟨j, hj, rfl⟩
  · exact br_t h (br_t h ⟨rfl, J⟩)
  · obtain ⟨j, hj, rfl⟩ := nI_of h0
    have h := (nI_ltI (by decide) hj).mp h
    exact br_f h0 (br_f (nI_nlt (b := 3) (by omega) hj) (br_f h0 (br_f (nI_ge (a := 2) h hj) ⟨rfl, J⟩)))
  · by_cases hd : 1 ≤ D
    · exact wx_store hN hd hD (by omega) (hx.2.1 _ (by omega)) fun a h1 h2 => wy_store hd hD (by omega) (hy.2.1 _ (by omega)) fun a' g1 g2 g3 => ⟨rfl, wr_mk (wr_okt ok) (wr_RXt hN hx h1 h2) (wr_RYt hy g1 g2 g3)⟩
    · have e0 : nI D = 0 := by rw [show D = 0 by omega]; rfl
      have g0 : ¬ nI j < 0 := nI_pos (by omega)
      exact br_f g0 (br_t (nI_lt (b := 3) (by omega) (by decide)) (br_f (nI_ge (b := 1) (by omega) (by decide)) (br_f g0 (br_t (nI_le (b := 2) hj (by decide)) (br_t e0 ⟨rfl, J⟩)))))
theorem i_vc_discard {k : Nat} {u : SX} {v : SY} (I : i_Rel k u v) (hk : k + 3 ≤ 1537) : wpX_discard (fun u' => wpY_discard (fun v' => i_Rel (k + 3) u' v') v) u := by
  obtain ⟨N, D, T, L, A, S, sx, lx, ox, sy, ly, oy, fy, ok, rfl, rfl, hx, hy⟩ := I
  have e : wr_ok N 0 T L := ⟨ok.1, ok.2.1, Nat.zero_le _, ok.2.2.2.1, Nat.zero_le _⟩
  exact wr_mk (k := k + 3) (A := A) (S := S) e ⟨fun i hi => absurd hi (Nat.not_lt_zero i), fun i hi => absurd hi (Nat.not_lt_zero i), hx.2.2⟩ ⟨fun i hi => absurd hi (Nat.not_lt_zero i), fun i hi => absurd hi (Nat.not_lt_zero i), hy.2.2⟩
theorem i_vc_depth {k : Nat} {u : SX} {v : SY} (I : i_Rel k u v) (hk : k + 3 ≤ 1537) : wpX_depth (fun r => wpY_depth (fun r' => r' = r ∧ i_Rel (k + 3) u v) v) u := by
  have J := i_up I
  obtain ⟨N, D, T, L, A, S, sx, lx, ox, sy, ly, oy, fy, ok, rfl, rfl, hx, hy⟩ := I
  exact ⟨rfl, J⟩
theorem i_vc_letters {k : Nat} {u : SX} {v : SY} (I : i_Rel k u v) (hk : k + 3 ≤ 1537) : wpX_letters (fun r => wpY_letters (fun r' => r' = r ∧ i_Rel (k + 3) u v) v) u := by
  have J := i_up I
  obtain ⟨N, D, T, L, A, S, sx, lx, ox, sy, ly, oy, fy, ok, rfl, rfl, hx, hy⟩ := I
  exact wx_letters ok.2.2.1 hx.1 (wy_letters ok.2.2.1 hy.1 ⟨rfl, J⟩)
theorem i_vc_choose {k : Nat} {u : SX} {v : SY} (I : i_Rel k u v) (hk : k + 3 ≤ 1537) (v1 : Int32) : wpX_choose (fun r u' => wpY_choose (fun r' v' => r' = r ∧ i_Rel (k + 3) u' v') v v1) u v1 := by
  have J := i_up I
  obtain ⟨N, D, T, L, A, S, sx, lx, ox, sy, ly, oy, fy, ok, rfl, rfl, hx, hy⟩ := I
  by_cases h0 : v1 < 0
  · exact br_t h0 (br_t h0 ⟨rfl, J⟩)
  · by_cases h5 : v1 ≤ 255
    · obtain ⟨j, hj, rfl⟩ := nI_of2 (M := 255) (n := 255) (by decide) h0 h5
      have e : wr_ok N D j L := ⟨ok.1, ok.2.1, ok.2.2.1, hj, ok.2.2.2.2⟩
      exact br_f h0 (br_t h5 (br_f h0 (br_t h5 ⟨rfl, wr_mk e hx hy⟩)))
    · exact br_f h0 (br_f h5 (br_f h0 (br_f h5 ⟨rfl, J⟩)))
theorem i_vc_count {k : Nat} {u : SX} {v : SY} (I : i_Rel k u v) (hk : k + 3 ≤ 1537) (v1 : Int32) : wpX_count (fun r => wpY_count (fun r' => r' = r ∧ i_Rel (k + 3) u v) v v1) u v1 := by
  have J := i_up I
  obtain ⟨N, D, T, L, A, S, sx, lx, ox, sy, ly, oy, fy, ok, rfl, rfl, hx, hy⟩ := I
  obtain ⟨hN1, hN, hD, hT, hs⟩ := id ok
  rcases wr_len hN v1 with h | ⟨l, hl, rfl⟩
  · exact wx_countB h (wy_countB hN h ⟨rfl, J⟩)
  · exact wx_countG hN hT hx.2.2 hl (wy_countG hN hT hy.2.2 hl ⟨rfl, J⟩)
theorem i_vc_total {k : Nat} {u : SX} {v : SY} (I : i_Rel k u v) (hk : k + 3 ≤ 1537) : wpX_total (fun r => wpY_total (fun r' => r' = r ∧ i_Rel (k + 3) u v) v) u := by
  have J := i_up I
  obtain ⟨N, D, T, L, A, S, sx, lx, ox, sy, ly, oy, fy, ok, rfl, rfl, hx, hy⟩ := I
  obtain ⟨hN1, hN, hD, hT, hs⟩ := id ok
  exact wx_total hN hT hx.2.2 (wy_total hN hT hy.2.2 ⟨rfl, J⟩)
theorem i_vc_isChosen {k : Nat} {u : SX} {v : SY} (I : i_Rel k u v) (hk : k + 3 ≤ 1537) (v1 : Int32) (v2 : Int32) : wpX_isChosen (fun r => wpY_isChosen (fun r' => r' = r ∧ i_Rel (k + 3) u v) v v1 v2) u v1 v2 := by
  have J := i_up I
  obtain ⟨N, D, T, L, A, S, sx, lx, ox, sy, ly, oy, fy, ok, rfl, rfl, hx, hy⟩ := I
  obtain ⟨hN1, hN, hD, hT, hs⟩ := id ok
  rcases wr_val hN v1 v2 with h | ⟨l, b, hl, hb, rfl, rfl⟩
  · exact wx_isChosenB hN h (wy_isChosenB hN h ⟨rfl, J⟩)
  · exact wx_isChosenG hN hT hx.2.2 hl hb (wy_isChosenG hN hT hy.2.2 hl hb ⟨rfl, J⟩)
theorem i_vc_rank {k : Nat} {u : SX} {v : SY} (I : i_Rel k u v) (hk : k + 3 ≤ 1537) (v1 : Int32) (v2 : Int32) : wpX_rank (fun r => wpY_rank (fun r' => r' = r ∧ i_Rel (k + 3) u v) v v1 v2) u v1 v2 := by
  have J := i_up I
  obtain ⟨N, D, T, L, A, S, sx, lx, ox, sy, ly, oy, fy, ok, rfl, rfl, hx, hy⟩ := I
  obtain ⟨hN1, hN, hD, hT, hs⟩ := id ok
  rcases wr_val hN v1 v2 with h | ⟨l, b, hl, hb, rfl, rfl⟩
  · exact wx_rankB hN h (wy_rankB hN h ⟨rfl, J⟩)
  · exact wx_rankG hN hT hx.2.2 hl hb (wy_rankG hN hT hy.2.2 hl hb ⟨rfl, J⟩)
theorem i_vc_wordLen {k : Nat} {u : SX} {v : SY} (I : i_Rel k u v) (hk : k + 3 ≤ 1537) (v1 : Int32) : wpX_wordLen (fun r => wpY_wordLen (fun r' => r' = r ∧ i_Rel (k + 3) u v) v v1) u v1 := by
  have J := i_up I
  obtain ⟨N, D, T, L, A, S, sx, lx, ox, sy, ly, oy, fy, ok, rfl, rfl, hx, hy⟩ := I
  obtain ⟨hN1, hN, hD, hT, hs⟩ := id ok
  have hM := wr_256 hN
  refine wx_wordLen hN hT hx.2.2 (fun f => wy_wordLen hN hT hy.2.2 (fun _ => ⟨rfl, J⟩) (fun r h1 _ g => absurd (wr_Fu hM f g) (by omega))) (fun r h1 _ f => wy_wordLen hN hT hy.2.2 (fun g => absurd (wr_Fu hM f g) (by omega)) (fun s _ _ g => ⟨?_, J⟩))
  rw [wr_Fu hM f g]
theorem i_vc_wordBits {k : Nat} {u : SX} {v : SY} (I : i_Rel k u v) (hk : k + 3 ≤ 1537) (v1 : Int32) : wpX_wordBits (fun r => wpY_wordBits (fun r' => r' = r ∧ i_Rel (k + 3) u v) v v1) u v1 := by
  have J := i_up I
  obtain ⟨N, D, T, L, A, S, sx, lx, ox, sy, ly, oy, fy, ok, rfl, rfl, hx, hy⟩ := I
  obtain ⟨hN1, hN, hD, hT, hs⟩ := id ok
  have hM := wr_256 hN
  refine wx_wordBits hN hT hx.2.2 (fun f => wy_wordBits hN hT hy.2.2 (fun _ => ⟨rfl, J⟩) (fun r h1 _ g => absurd (wr_Fu hM f g) (by omega))) (fun r h1 _ f => wy_wordBits hN hT hy.2.2 (fun g => absurd (wr_Fu hM f g) (by omega)) (fun s _ _ g => ⟨?_, J⟩))
  rw [wr_Fu hM f g]
theorem i_vc_countFrom {k : Nat} {u : SX} {v : SY} (I : i_Rel k u v) (hk : k + 3 ≤ 1537) (v1 : Int32) (v2 : Int32) : wpX_countFrom (fun r => wpY_countFrom (fun r' => r' = r ∧ i_Rel (k + 3) u v) v v1 v2) u v1 v2 := by
  have J := i_up I
  obtain ⟨N, D, T, L, A, S, sx, lx, ox, sy, ly, oy, fy, ok, rfl, rfl, hx, hy⟩ := I
  obtain ⟨hN1, hN, hD, hT, hs⟩ := id ok
  rcases wr_val hN v1 v2 with h | ⟨l, b, hl, hb, rfl, rfl⟩
  · exact wx_countFromB hN h (wy_countFromB hN h ⟨rfl, J⟩)
  · exact wx_countFromG hN hT hx.2.2 hl hb (wy_countFromG hN hT hy.2.2 hl hb ⟨rfl, J⟩)
theorem i_vc_groups {k : Nat} {u : SX} {v : SY} (I : i_Rel k u v) (hk : k + 3 ≤ 1537) (v1 : Int32) : wpX_groups (fun r => wpY_groups (fun r' => r' = r ∧ i_Rel (k + 3) u v) v v1) u v1 := by
  have J := i_up I
  obtain ⟨N, D, T, L, A, S, sx, lx, ox, sy, ly, oy, fy, ok, rfl, rfl, hx, hy⟩ := I
  obtain ⟨hN1, hN, hD, hT, hs⟩ := id ok
  rcases wr_len hN v1 with h | ⟨l, hl, rfl⟩
  · exact wx_groupsB h (wy_groupsB h ⟨rfl, J⟩)
  · exact wx_groupsG hN hT hx.2.2 hl (wy_groupsG hN hT hy.2.2 hl ⟨rfl, J⟩)
end
