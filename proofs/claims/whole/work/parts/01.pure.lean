/-! 01: words by their codes c (at least 1; the length is Nat.log2 c), languages as Nat → Prop, counting -/
noncomputable def wr_d (p : Prop) : Int32 := @ite Int32 p (Classical.propDecidable p) 1 0
theorem wr_dt {p : Prop} (h : p) : wr_d p = 1 := if_pos h
theorem wr_df {p : Prop} (h : ¬ p) : wr_d p = 0 := if_neg h
theorem wr_d1 {p : Prop} : wr_d p = 1 ↔ p :=
  ⟨fun e => Classical.byContradiction fun h => absurd ((wr_df h).symm.trans e) (by decide), wr_dt⟩
theorem wr_d0 {p : Prop} : wr_d p = 0 ↔ ¬ p :=
  ⟨fun e h => absurd ((wr_dt h).symm.trans e) (by decide), wr_df⟩
theorem wr_dc {p q : Prop} (h : p ↔ q) : wr_d p = wr_d q := congrArg wr_d (propext h)
theorem wr_dn (p : Prop) : narrow .boolean (.int (wr_d p)) = .int (wr_d p) := by
  by_cases h : p
  · rw [wr_dt h]; rfl
  · rw [wr_df h]; rfl
theorem wr_dv (p : Prop) : vp_nar .boolean (wr_d p) = wr_d p := by
  by_cases h : p
  · rw [wr_dt h]; first | rfl | decide
  · rw [wr_df h]; first | rfl | decide
theorem wr_T : wr_d True = 1 := wr_dt trivial
theorem wr_Fa : wr_d False = 0 := wr_df (fun h => h)
noncomputable def wr_o (p : Prop) : Nat := @ite Nat p (Classical.propDecidable p) 1 0
theorem wr_ot {p : Prop} (h : p) : wr_o p = 1 := if_pos h
theorem wr_of {p : Prop} (h : ¬ p) : wr_o p = 0 := if_neg h
theorem wr_ol (p : Prop) : wr_o p ≤ 1 := by
  by_cases h : p
  · rw [wr_ot h]; exact Nat.le_refl 1
  · rw [wr_of h]; exact Nat.zero_le 1
theorem wr_oc {p q : Prop} (h : p ↔ q) : wr_o p = wr_o q := congrArg wr_o (propext h)
/-! lengths, heads, tails -/
theorem wr_lg {c l : Nat} (h1 : 2 ^ l ≤ c) (h2 : c < 2 ^ (l + 1)) : Nat.log2 c = l :=
  (Nat.log2_eq_iff (Nat.ne_of_gt (Nat.lt_of_lt_of_le (Nat.two_pow_pos l) h1))).mpr ⟨h1, h2⟩
theorem wr_lg1 {c : Nat} (h : 1 ≤ c) : 2 ^ Nat.log2 c ≤ c := Nat.log2_self_le (by omega)
theorem wr_lg2 {c : Nat} : c < 2 ^ (Nat.log2 c + 1) := Nat.lt_log2_self
theorem wr_lgN {c N : Nat} (h1 : 1 ≤ c) (h : c < 2 ^ (N + 1)) : Nat.log2 c ≤ N := by
  have := (Nat.log2_lt (n := c) (k := N + 1) (by omega)).mpr h
  omega
theorem wr_pw {a b : Nat} (h : a ≤ b) : 2 ^ a ≤ 2 ^ b := Nat.pow_le_pow_right (by decide) h
theorem wr_a1 {p m : Nat} (h : m < p) : p + m < p * 2 := by omega
theorem wr_tlt (c t : Nat) : 2 ^ t + c % 2 ^ t < 2 ^ (t + 1) := by
  rw [Nat.pow_succ]
  exact wr_a1 (Nat.mod_lt c (Nat.two_pow_pos t))
theorem wr_tl1 (c t : Nat) : 1 ≤ 2 ^ t + c % 2 ^ t := Nat.le_trans (Nat.two_pow_pos t) (Nat.le_add_right _ _)
theorem wr_lgt (c t : Nat) : Nat.log2 (2 ^ t + c % 2 ^ t) = t := wr_lg (Nat.le_add_right _ _) (wr_tlt c t)
theorem wr_lgd {c t : Nat} (h1 : 1 ≤ c) (ht : t ≤ Nat.log2 c) : Nat.log2 (c / 2 ^ t) = Nat.log2 c - t := by
  have hp := Nat.two_pow_pos t
  obtain ⟨s, hs⟩ : ∃ s, Nat.log2 c = t + s := ⟨Nat.log2 c - t, by omega⟩
  have a := wr_lg1 h1
  have b := @wr_lg2 c
  rw [hs] at a b
  rw [hs, Nat.add_sub_cancel_left]
  apply wr_lg
  · rw [Nat.le_div_iff_mul_le hp, ← Nat.pow_add, Nat.add_comm s t]
    exact a
  · rw [Nat.div_lt_iff_lt_mul hp, ← Nat.pow_add, show s + 1 + t = t + s + 1 by omega]
    exact b
theorem wr_hd1 {c t : Nat} (h1 : 1 ≤ c) (ht : t ≤ Nat.log2 c) : 1 ≤ c / 2 ^ t := by
  rw [Nat.le_div_iff_mul_le (Nat.two_pow_pos t), Nat.one_mul]
  exact Nat.le_trans (wr_pw ht) (wr_lg1 h1)
theorem wr_hdl {c t l : Nat} (ht : 1 ≤ t) (h : c < 2 ^ (l + 1)) : c / 2 ^ t < 2 ^ l := by
  rw [Nat.div_lt_iff_lt_mul (Nat.two_pow_pos t), ← Nat.pow_add]
  exact Nat.lt_of_lt_of_le h (wr_pw (by omega))
theorem wr_h1 (c t s : Nat) : c / 2 ^ t / 2 ^ s = c / 2 ^ (t + s) := by rw [Nat.div_div_eq_div_mul, Nat.pow_add]
theorem wr_h2 (c t s : Nat) : (2 ^ (t + s) + c % 2 ^ (t + s)) / 2 ^ t = 2 ^ s + c / 2 ^ t % 2 ^ s := by
  rw [Nat.pow_add, Nat.mul_add_div (Nat.two_pow_pos t), Nat.mod_mul_right_div_self]
theorem wr_h3 (c t s : Nat) : (2 ^ (t + s) + c % 2 ^ (t + s)) % 2 ^ t = c % 2 ^ t := by
  rw [Nat.pow_add, Nat.mul_add_mod, Nat.mod_mul_right_mod]
/-! concatenation, one or more, reversal -/
def wr_Cat (A B : Nat → Prop) (c : Nat) : Prop := ∃ t, t ≤ Nat.log2 c ∧ A (c / 2 ^ t) ∧ B (2 ^ t + c % 2 ^ t)
def wr_C (A G : Nat → Prop) (c : Nat) : Prop := A c ∨ ∃ t, 1 ≤ t ∧ t < Nat.log2 c ∧ A (c / 2 ^ t) ∧ G (2 ^ t + c % 2 ^ t)
def wr_P (A : Nat → Prop) (c : Nat) : Prop := ∀ G : Nat → Prop, (∀ d, wr_C A G d → G d) → G c
theorem wr_Pi {A : Nat → Prop} {c : Nat} (h : wr_C A (wr_P A) c) : wr_P A c := fun G hG =>
  hG c (h.elim Or.inl fun ⟨t, h1, h2, h3, h4⟩ => Or.inr ⟨t, h1, h2, h3, h4 G hG⟩)
theorem wr_Pe {A : Nat → Prop} {c : Nat} (h : wr_P A c) : wr_C A (wr_P A) c :=
  h (fun d => wr_C A (wr_P A) d) fun _ hd => hd.elim Or.inl fun ⟨t, h1, h2, h3, h4⟩ => Or.inr ⟨t, h1, h2, h3, wr_Pi h4⟩
theorem wr_Pf {A : Nat → Prop} {c : Nat} : wr_P A c ↔ wr_C A (wr_P A) c := ⟨wr_Pe, wr_Pi⟩
theorem wr_Pc {A : Nat → Prop} : ∀ n c t : Nat, c < n → 1 ≤ c → 1 ≤ t → t < Nat.log2 c → wr_P A (c / 2 ^ t) → wr_P A (2 ^ t + c % 2 ^ t) → wr_P A c := by
  intro n
  induction n with
  | zero => exact fun c t h => absurd h (Nat.not_lt_zero c)
  | succ n ih =>
    intro c t hc h1 ht ht2 hu hv
    rcases wr_Pe hu with h | ⟨s, hs, hs2, ha, hb⟩
    · exact wr_Pi (Or.inr ⟨t, ht, ht2, h, hv⟩)
    · rw [wr_lgd h1 (by omega)] at hs2
      have hd : wr_P A (2 ^ (t + s) + c % 2 ^ (t + s)) := by
        refine ih _ t ?_ (wr_tl1 _ _) ht ?_ ?_ ?_
        · have b := wr_pw (show t + s + 1 ≤ Nat.log2 c by omega)
          exact Nat.lt_of_lt_of_le (Nat.lt_of_lt_of_le (wr_tlt c (t + s)) b) (Nat.le_trans (wr_lg1 h1) (by omega))
        · rw [wr_lgt]; omega
        · rw [wr_h2]; exact hb
        · rw [wr_h3]; exact hv
      rw [wr_h1] at ha
      exact wr_Pi (Or.inr ⟨t + s, by omega, by omega, ha, hd⟩)
theorem wr_PX {A : Nat → Prop} {c : Nat} (h1 : 1 ≤ c) : wr_P A c ↔ (A c ∨ ∃ t, 1 ≤ t ∧ t < Nat.log2 c ∧ wr_P A (c / 2 ^ t) ∧ wr_P A (2 ^ t + c % 2 ^ t)) :=
  ⟨fun h => (wr_Pe h).elim Or.inl fun ⟨t, a, b, d, e⟩ => Or.inr ⟨t, a, b, wr_Pi (Or.inl d), e⟩,
   fun h => h.elim (fun a => wr_Pi (Or.inl a)) fun ⟨t, a, b, d, e⟩ => wr_Pc (c + 1) c t (by omega) h1 a b d e⟩
theorem wr_P1 {A : Nat → Prop} {c : Nat} (h : Nat.log2 c ≤ 1) : wr_P A c ↔ A c :=
  ⟨fun x => (wr_Pe x).elim id fun ⟨t, a, b, _⟩ => absurd b (by omega), fun x => wr_Pi (Or.inl x)⟩
def wr_m (c : Nat) : Nat → Nat
  | 0 => 1
  | k + 1 => wr_m c k * 2 + c / 2 ^ k % 2
def wr_mi (c : Nat) : Nat := wr_m c (Nat.log2 c)
theorem wr_mt : ∀ l, l < 8 → ∀ c, c < 2 ^ l → wr_m (wr_m (2 ^ l + c) l) l = 2 ^ l + c := by decide +kernel
theorem wr_mb (c : Nat) : ∀ k, 2 ^ k ≤ wr_m c k ∧ wr_m c k < 2 ^ (k + 1) := by
  intro k
  induction k with
  | zero => exact (by decide : 1 ≤ 1 ∧ 1 < 2)
  | succ k ih =>
    have h : c / 2 ^ k % 2 < 2 := Nat.mod_lt _ (by decide)
    have e1 : 2 ^ (k + 1) = 2 ^ k * 2 := Nat.pow_succ ..
    have e2 : 2 ^ (k + 1 + 1) = 2 ^ (k + 1) * 2 := Nat.pow_succ ..
    show 2 ^ (k + 1) ≤ wr_m c k * 2 + c / 2 ^ k % 2 ∧ wr_m c k * 2 + c / 2 ^ k % 2 < 2 ^ (k + 1 + 1)
    generalize c / 2 ^ k % 2 = x at h ⊢
    omega
theorem wr_mil (c : Nat) : Nat.log2 (wr_mi c) = Nat.log2 c := wr_lg (wr_mb c _).1 (wr_mb c _).2
theorem wr_mi1 (c : Nat) : 1 ≤ wr_mi c := Nat.le_trans (Nat.two_pow_pos _) (wr_mb c _).1
theorem wr_miM {c N : Nat} (h1 : 1 ≤ c) (h : c < 2 ^ (N + 1)) : wr_mi c < 2 ^ (N + 1) :=
  Nat.lt_of_lt_of_le (wr_mb c _).2 (wr_pw (by have := wr_lgN h1 h; omega))
theorem wr_mm {c : Nat} (h1 : 1 ≤ c) (h : c < 256) : wr_mi (wr_mi c) = c := by
  have a := wr_lgN (N := 7) h1 h
  have b := wr_lg1 h1
  have d := @wr_lg2 c
  have e : 2 ^ (Nat.log2 c + 1) = 2 ^ Nat.log2 c * 2 := Nat.pow_succ ..
  have g := wr_mt (Nat.log2 c) (by omega) (c - 2 ^ Nat.log2 c) (by omega)
  rw [show 2 ^ Nat.log2 c + (c - 2 ^ Nat.log2 c) = c by omega] at g
  show wr_m (wr_mi c) (Nat.log2 (wr_mi c)) = c
  rw [wr_mil]
  exact g
theorem wr_mi2 {c : Nat} (h1 : 1 ≤ c) (h : c < 4) : wr_mi c = c := (by decide +kernel : ∀ c, c < 4 → 1 ≤ c → wr_mi c = c) c h h1
/-! counting -/
noncomputable def wr_n (P : Nat → Prop) (a : Nat) : Nat → Nat
  | 0 => 0
  | k + 1 => wr_n P a k + wr_o (P (a + k))
theorem wr_n_le (P : Nat → Prop) (a : Nat) : ∀ k, wr_n P a k ≤ k := by
  intro k
  induction k with
  | zero => exact Nat.le_refl 0
  | succ k ih =>
    have := wr_ol (P (a + k))
    show wr_n P a k + wr_o (P (a + k)) ≤ k + 1
    omega
theorem wr_n_add (P : Nat → Prop) (a m : Nat) : ∀ k, wr_n P a (m + k) = wr_n P a m + wr_n P (a + m) k := by
  intro k
  induction k with
  | zero => rfl
  | succ k ih =>
    show wr_n P a (m + k) + wr_o (P (a + (m + k))) = wr_n P a m + (wr_n P (a + m) k + wr_o (P (a + m + k)))
    rw [ih, Nat.add_assoc a m k]
    omega
theorem wr_n_mono (P : Nat → Prop) (a : Nat) {m k : Nat} (h : m ≤ k) : wr_n P a m ≤ wr_n P a k := by
  obtain ⟨j, rfl⟩ : ∃ j, k = m + j := ⟨k - m, by omega⟩
  rw [wr_n_add]
  exact Nat.le_add_right _ _
theorem wr_n_cg {P Q : Nat → Prop} {a : Nat} : ∀ k, (∀ c, a ≤ c → c < a + k → (P c ↔ Q c)) → wr_n P a k = wr_n Q a k := by
  intro k
  induction k with
  | zero => intro _; rfl
  | succ k ih =>
    intro h
    show wr_n P a k + wr_o (P (a + k)) = wr_n Q a k + wr_o (Q (a + k))
    rw [ih fun c h1 h2 => h c h1 (by omega), wr_oc (h (a + k) (by omega) (by omega))]
theorem wr_n_0 {P : Nat → Prop} {a : Nat} : ∀ k, (∀ c, a ≤ c → c < a + k → ¬ P c) → wr_n P a k = 0 := by
  intro k
  induction k with
  | zero => intro _; rfl
  | succ k ih =>
    intro h
    show wr_n P a k + wr_o (P (a + k)) = 0
    rw [ih fun c h1 h2 => h c h1 (by omega), wr_of (h (a + k) (by omega) (by omega))]
theorem wr_n_btw {P Q : Nat → Prop} {lo hi : Nat} (h1 : 1 ≤ lo) (h2 : lo ≤ hi) (h3 : hi ≤ 256) (hQ : ∀ c, Q c ↔ lo ≤ c ∧ c < hi ∧ P c) : wr_n Q 1 255 = wr_n P lo (hi - lo) := by
  have e : (lo - 1) + ((hi - lo) + (256 - hi)) = 255 := by omega
  have g : 1 + (lo - 1) = lo := by omega
  have a := wr_n_add Q 1 (lo - 1) ((hi - lo) + (256 - hi))
  have b := wr_n_add Q lo (hi - lo) (256 - hi)
  rw [e, g] at a
  have c0 : wr_n Q 1 (lo - 1) = 0 := wr_n_0 _ fun c h4 h5 h6 => by
    have q := ((hQ c).mp h6).1
    omega
  have d0 : wr_n Q (lo + (hi - lo)) (256 - hi) = 0 := wr_n_0 _ fun c h4 h5 h6 => by
    have q := ((hQ c).mp h6).2.1
    omega
  have f0 : wr_n Q lo (hi - lo) = wr_n P lo (hi - lo) := wr_n_cg _ fun c h4 h5 => ⟨fun h6 => ((hQ c).mp h6).2.2, fun h6 => (hQ c).mpr ⟨h4, by omega, h6⟩⟩
  omega
/-! the word that has k before it -/
def wr_F (M : Nat) (P : Nat → Prop) (k : Int32) (r : Nat) : Prop :=
  (r = 0 ∧ ∀ c, 1 ≤ c → c < M → P c → nI (wr_n P 1 (c - 1)) ≠ k) ∨ (1 ≤ r ∧ r < M ∧ P r ∧ nI (wr_n P 1 (r - 1)) = k)
theorem wr_Fl {M : Nat} {P : Nat → Prop} {k : Int32} {r s : Nat} (hM : M ≤ 256) (hr : 1 ≤ r) (hs : s < M) (pr : P r) (er : nI (wr_n P 1 (r - 1)) = k) (es : nI (wr_n P 1 (s - 1)) = k) : ¬ r < s := by
  intro h
  have a := wr_n_le P 1 (r - 1)
  have b := wr_n_le P 1 (s - 1)
  have c : wr_n P 1 (r - 1) = wr_n P 1 (s - 1) := (nI_eq (by omega) (by omega)).mp (er.trans es.symm)
  have d : wr_n P 1 (r - 1 + 1) = wr_n P 1 (r - 1) + wr_o (P (1 + (r - 1))) := rfl
  rw [show 1 + (r - 1) = r by omega, wr_ot pr] at d
  have e := wr_n_mono P 1 (show r - 1 + 1 ≤ s - 1 by omega)
  omega
theorem wr_Fu {M : Nat} {P : Nat → Prop} {k : Int32} {r s : Nat} (hM : M ≤ 256) (h1 : wr_F M P k r) (h2 : wr_F M P k s) : r = s := by
  rcases h1 with ⟨h1, g1⟩ | ⟨a1, b1, c1, d1⟩
  · rcases h2 with ⟨h2, g2⟩ | ⟨a2, b2, c2, d2⟩
    · omega
    · exact absurd d2 (g1 s a2 b2 c2)
  · rcases h2 with ⟨h2, g2⟩ | ⟨a2, b2, c2, d2⟩
    · exact absurd d1 (g2 r a1 b1 c1)
    · have x := wr_Fl hM a1 b2 c1 d1 d2
      have y := wr_Fl hM a2 b1 c2 d2 d1
      omega
/-! words that begin with a word -/
def wr_K (P : Nat → Prop) (l w : Nat) (c : Nat) : Prop := l ≤ Nat.log2 c ∧ c / 2 ^ (Nat.log2 c - l) = w ∧ P c
noncomputable def wr_S (P : Nat → Prop) (w : Nat) : Nat → Nat
  | 0 => 0
  | k + 1 => wr_S P w k + wr_n P (w * 2 ^ k) (2 ^ k)
theorem wr_KS {P : Nat → Prop} {l w : Nat} (h1 : 2 ^ l ≤ w) (h2 : w < 2 ^ (l + 1)) : ∀ k, wr_n (wr_K P l w) 1 (2 ^ (l + k) - 1) = wr_S P w k := by
  intro k
  induction k with
  | zero =>
    apply wr_n_0
    intro c a b x
    have y := wr_lg1 a
    have z := wr_pw x.1
    have p := Nat.two_pow_pos l
    rw [Nat.add_zero] at b
    omega
  | succ k ih =>
    have p := Nat.two_pow_pos k
    have q := Nat.two_pow_pos (l + k)
    have e0 : 2 ^ (l + k) = 2 ^ l * 2 ^ k := Nat.pow_add ..
    have e1 : 2 ^ (l + (k + 1)) = 2 ^ (l + k) * 2 := Nat.pow_succ ..
    have e2 : 2 ^ (l + 1) * 2 ^ k = 2 ^ (l + k) * 2 := by rw [Nat.pow_succ, e0]; ac_rfl
    have i1 : 2 ^ (l + k) ≤ w * 2 ^ k := by rw [e0]; exact Nat.mul_le_mul_right _ h1
    have i2 : (w + 1) * 2 ^ k ≤ 2 ^ (l + k) * 2 := by rw [← e2]; exact Nat.mul_le_mul_right _ h2
    rw [Nat.add_mul, Nat.one_mul] at i2
    have key : ∀ c, 2 ^ (l + k) ≤ c → c < 2 ^ (l + k) * 2 → (wr_K P l w c ↔ w * 2 ^ k ≤ c ∧ c < w * 2 ^ k + 2 ^ k ∧ P c) := by
      intro c a b
      have hl : Nat.log2 c = l + k := wr_lg a (by rw [Nat.pow_succ]; exact b)
      unfold wr_K
      rw [hl, Nat.add_sub_cancel_left]
      constructor
      · intro ⟨_, y, z⟩
        refine ⟨?_, ?_, z⟩
        · exact (Nat.le_div_iff_mul_le p).mp (Nat.le_of_eq y.symm)
        · have := (Nat.div_lt_iff_lt_mul p).mp (show c / 2 ^ k < w + 1 by omega)
          rw [Nat.add_mul, Nat.one_mul] at this
          exact this
      · intro ⟨x, y, z⟩
        refine ⟨Nat.le_add_right _ _, ?_, z⟩
        have u := (Nat.le_div_iff_mul_le p).mpr x
        have v : c / 2 ^ k < w + 1 := (Nat.div_lt_iff_lt_mul p).mpr (by rw [Nat.add_mul, Nat.one_mul]; exact y)
        omega
    have a := wr_n_add (wr_K P l w) 1 (2 ^ (l + k) - 1) (2 ^ (l + k))
    rw [show 2 ^ (l + k) - 1 + 2 ^ (l + k) = 2 ^ (l + (k + 1)) - 1 by omega, show 1 + (2 ^ (l + k) - 1) = 2 ^ (l + k) by omega, ih] at a
    have b := wr_n_add (wr_K P l w) (2 ^ (l + k)) (w * 2 ^ k - 2 ^ (l + k)) (2 ^ k + (2 ^ (l + k) * 2 - (w * 2 ^ k + 2 ^ k)))
    rw [show w * 2 ^ k - 2 ^ (l + k) + (2 ^ k + (2 ^ (l + k) * 2 - (w * 2 ^ k + 2 ^ k))) = 2 ^ (l + k) by omega, show 2 ^ (l + k) + (w * 2 ^ k - 2 ^ (l + k)) = w * 2 ^ k by omega] at b
    have b2 := wr_n_add (wr_K P l w) (w * 2 ^ k) (2 ^ k) (2 ^ (l + k) * 2 - (w * 2 ^ k + 2 ^ k))
    have c0 : wr_n (wr_K P l w) (2 ^ (l + k)) (w * 2 ^ k - 2 ^ (l + k)) = 0 := wr_n_0 _ fun c x y z => by
      have := ((key c x (by omega)).mp z).1
      omega
    have c1 : wr_n (wr_K P l w) (w * 2 ^ k + 2 ^ k) (2 ^ (l + k) * 2 - (w * 2 ^ k + 2 ^ k)) = 0 := wr_n_0 _ fun c x y z => by
      have := ((key c (by omega) (by omega)).mp z).2.1
      omega
    have c2 : wr_n (wr_K P l w) (w * 2 ^ k) (2 ^ k) = wr_n P (w * 2 ^ k) (2 ^ k) := wr_n_cg _ fun c x y =>
      ⟨fun z => ((key c (by omega) (by omega)).mp z).2.2, fun z => (key c (by omega) (by omega)).mpr ⟨x, y, z⟩⟩
    show _ = wr_S P w k + wr_n P (w * 2 ^ k) (2 ^ k)
    omega
/-! words that are alike -/
def wr_A (P : Nat → Prop) (r e c : Nat) : Prop := ∀ m, m ≤ r → ∀ z, z < 2 ^ m → (P (e * 2 ^ m + z) ↔ P (c * 2 ^ m + z))
def wr_G (P : Nat → Prop) (l r c : Nat) : Prop := ¬ ∃ e, 2 ^ l ≤ e ∧ e < c ∧ wr_A P r e c
theorem wr_As {P : Nat → Prop} {r e c : Nat} : wr_A P r e c ↔ wr_A P r c e := ⟨fun h m a z b => (h m a z b).symm, fun h m a z b => (h m a z b).symm⟩
theorem wr_Az {P : Nat → Prop} {r e c : Nat} : wr_A P r e c ↔ ∀ d, 1 ≤ d → d < 2 ^ (r + 1) → (P (e * 2 ^ Nat.log2 d + (d - 2 ^ Nat.log2 d)) ↔ P (c * 2 ^ Nat.log2 d + (d - 2 ^ Nat.log2 d))) := by
  constructor
  · intro h d a b
    have x := wr_lg1 a
    have y := @wr_lg2 d
    rw [Nat.pow_succ] at y
    exact h _ (wr_lgN a b) _ (by omega)
  · intro h m a z b
    have p := Nat.two_pow_pos m
    have e : Nat.log2 (2 ^ m + z) = m := wr_lg (Nat.le_add_right _ _) (by rw [Nat.pow_succ]; omega)
    have q := wr_pw (show m + 1 ≤ r + 1 by omega)
    rw [Nat.pow_succ] at q
    have g := h (2 ^ m + z) (by omega) (by omega)
    rw [e, Nat.add_sub_cancel_left] at g
    exact g
/-! letters, the index, what is chosen -/
def wr_s (L : Nat → Nat) : Nat → Nat
  | 0 => 0
  | k + 1 => wr_s L k + L k
theorem wr_s_cg {L M : Nat → Nat} : ∀ k, (∀ i, i < k → L i = M i) → wr_s L k = wr_s M k := by
  intro k
  induction k with
  | zero => intro _; rfl
  | succ k ih =>
    intro h
    show wr_s L k + L k = wr_s M k + M k
    rw [ih fun i hi => h i (by omega), h k (by omega)]
theorem wr_s_mono (L : Nat → Nat) {m k : Nat} (h : m ≤ k) : wr_s L m ≤ wr_s L k := by
  induction k with
  | zero => rw [show m = 0 by omega]; exact Nat.le_refl _
  | succ k ih =>
    show wr_s L m ≤ wr_s L k + L k
    by_cases e : m = k + 1
    · rw [e]; exact Nat.le_refl _
    · have := ih (by omega)
      omega
noncomputable def wr_i (S : Nat → Nat → Prop) (c : Nat) : Nat := wr_o (S 0 c) + 2 * wr_o (S 1 c) + 4 * wr_o (S 2 c)
def wr_Ch (S : Nat → Nat → Prop) (T c : Nat) : Prop := T / 2 ^ wr_i S c % 2 = 1
theorem wr_i8 (S : Nat → Nat → Prop) (c : Nat) : wr_i S c < 8 := by
  have a := wr_ol (S 0 c)
  have b := wr_ol (S 1 c)
  have d := wr_ol (S 2 c)
  unfold wr_i
  omega
/-- f with g at place i -/
def wr_u {α : Type _} (f : Nat → α) (i : Nat) (g : α) : Nat → α := fun j => if j = i then g else f j
theorem wr_us {α : Type _} {f : Nat → α} {i : Nat} {g : α} : wr_u f i g i = g := if_pos rfl
theorem wr_un {α : Type _} {f : Nat → α} {i j : Nat} {g : α} (h : j ≠ i) : wr_u f i g j = f j := if_neg h
