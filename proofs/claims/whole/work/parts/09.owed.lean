/-! 09: what is owed -/
section
variable {N D T : Nat} {st le sl : Nat → Int32}
theorem wx_unitG {post : Int32 → SX → Prop} (hN : N ≤ 7) (hD : D < 8) (hp : ∀ a, wr_X (2 ^ (N + 1)) (D * 256) a (fun c => c = 1) → (∀ j, j < D * 256 → a j = st j) → post (nI (D + 1)) (nI N, nI (D + 1), nI T, a, upd le D 0, sl)) : wpX_unit post (nI N, nI D, nI T, st, le, sl) := by
  refine br_t (nI_lt (b := 8) hD (by decide)) (wx_push hN hD fun a h1 h2 => wx_addE (D := D + 1) (by omega) (by omega) ?_)
  rw [Nat.add_sub_cancel]
  exact hp _ (wr_Xc (wr_addE h1) fun c _ _ => ⟨Or.inl, fun z => z.elim id False.elim⟩) (fun j hj => (pk_un (by omega)).trans (h2 j hj))
theorem wx_noneG {post : Int32 → SX → Prop} (hN : N ≤ 7) (hD : D < 8) (hp : ∀ a, wr_X (2 ^ (N + 1)) (D * 256) a (fun _ => False) → (∀ j, j < D * 256 → a j = st j) → post (nI (D + 1)) (nI N, nI (D + 1), nI T, a, upd le D 0, sl)) : wpX_none post (nI N, nI D, nI T, st, le, sl) :=
  br_t (nI_lt (b := 8) hD (by decide)) (wx_push hN hD hp)
theorem wr_b0 (h1 : 1 ≤ N) (h7 : N ≤ 7) : i_Rel 1 (nI N, 0, 170, fun _ => 0, fun _ => 0, fun _ => 0) (0, 170, nI N, fun _ => 0, fun _ => 0, fun _ => 0, fun _ => 0) := by
  have e : wr_ok N 0 170 (fun _ => 0) := ⟨h1, h7, by decide, by decide, Nat.zero_le _⟩
  exact wr_mk (A := fun _ _ => False) (S := fun _ _ => False) e ⟨fun i hi => absurd hi (Nat.not_lt_zero i), fun i hi => absurd hi (Nat.not_lt_zero i), fun i _ c _ _ => wr_Fa.symm⟩ ⟨fun i hi => absurd hi (Nat.not_lt_zero i), fun i hi => absurd hi (Nat.not_lt_zero i), fun i _ c _ => wr_Fa.symm⟩
end
theorem i_vc0 (k0 : Int32) : wpX_init (fun u => wpY_init (fun v => i_Rel 1 u v) k0) k0 := by
  rcases wr_len (N := 7) (Nat.le_refl 7) k0 with (h | ⟨h0, h⟩) | ⟨l, hl, rfl⟩
  · have g : ¬ 1 ≤ k0 := by
      intro z
      rw [Int32.le_iff_toInt_le] at z
      rw [Int32.lt_iff_toInt_lt] at h
      have e0 : (0 : Int32).toInt = 0 := by decide
      have e1 : (1 : Int32).toInt = 1 := by decide
      omega
    exact br_f g (br_f g (wr_b0 (N := 1) (by decide) (by decide)))
  · obtain ⟨j, hj, rfl⟩ := nI_of h0
    have h := (nI_ltI (by decide) hj).mp h
    have g1 : 1 ≤ nI j := nI_le (a := 1) (by omega) hj
    have g7 : ¬ nI j ≤ 7 := nI_ge (a := 7) h hj
    exact br_t g1 (br_f g7 (br_t g1 (br_f g7 (wr_b0 (N := 7) (by decide) (by decide)))))
  · by_cases e : l = 0
    · subst e
      have g : ¬ 1 ≤ nI 0 := nI_ge (b := 1) (by decide) (by decide)
      exact br_f g (br_f g (wr_b0 (N := 1) (by decide) (by decide)))
    · have g1 : 1 ≤ nI l := nI_le (a := 1) (by omega) (by omega)
      have g7 : nI l ≤ 7 := nI_le (b := 7) hl (by decide)
      exact br_t g1 (br_t g7 (br_t g1 (br_t g7 (wr_b0 (by omega) hl))))
theorem i_vc_letter {k : Nat} {u : SX} {v : SY} (I : i_Rel k u v) (hk : k + 3 ≤ 1537) (v1 : Int32) : wpX_letter (fun r u' => wpY_letter (fun r' v' => r' = r ∧ i_Rel (k + 3) u' v') v v1) u v1 := by
  have J := i_up I
  obtain ⟨N, D, T, L, A, S, sx, lx, ox, sy, ly, oy, fy, ok, rfl, rfl, hx, hy⟩ := I
  obtain ⟨hN1, hN, hD, hT, hs⟩ := id ok
  rcases wr_len (N := 2) (by decide) v1 with (h | ⟨h0, h⟩) | ⟨j, hj, rfl⟩
  · exact br_t h (br_t h ⟨rfl, J⟩)
  · have g : ¬ v1 ≤ 2 := Int32.not_le.mpr h
    exact br_f h0 (br_f g (br_f h0 (br_f g ⟨rfl, J⟩)))
  · have g0 : ¬ nI j < 0 := nI_pos (by omega)
    have g2 : nI j ≤ 2 := nI_le (b := 2) hj (by decide)
    by_cases hd : D = 8
    · have e8 : nI D = 8 := by rw [hd]; rfl
      exact br_f g0 (br_t g2 (br_t (nI_le (a := 8) (by omega) (by omega)) (br_f g0 (br_t g2 (br_t e8 ⟨rfl, J⟩)))))
    · have g8 : ¬ nI D = 8 := fun z => hd ((nI_eq (b := 8) (by omega) (by decide)).mp z)
      by_cases h12 : wr_s L D = 12
      · have e12 : nI (wr_s L D) = 12 := by rw [h12]; rfl
        exact br_f g0 (br_t g2 (br_f (nI_ge (b := 8) (by omega) (by decide)) (wx_letters hD hx.1 (br_f (nI_nlt (b := 12) (by omega) (by omega)) (br_f g0 (br_t g2 (br_f g8 (wy_letters hD hy.1 (br_t e12 ⟨rfl, J⟩)))))))))
      · exact wx_letterG hN1 hN (by omega) hx.1 (by omega) (by omega) fun a b h1 h2 h3 h4 => wy_letterG (by omega) hy.1 (by omega) (by omega) fun a' f' g1 g2 => ⟨rfl, wr_mk (wr_okp (p := 1) ok (by omega) (by omega)) (wr_RXp hN hx h1 h2 h3 h4) (wr_RYp hy g1 g2 (fun i hi => pk_un (by omega)) pk_us)⟩
theorem i_vc_unit {k : Nat} {u : SX} {v : SY} (I : i_Rel k u v) (hk : k + 3 ≤ 1537) : wpX_unit (fun r u' => wpY_unit (fun r' v' => r' = r ∧ i_Rel (k + 3) u' v') v) u := by
  have J := i_up I
  obtain ⟨N, D, T, L, A, S, sx, lx, ox, sy, ly, oy, fy, ok, rfl, rfl, hx, hy⟩ := I
  obtain ⟨hN1, hN, hD, hT, hs⟩ := id ok
  by_cases hd : D = 8
  · have e8 : nI D = 8 := by rw [hd]; rfl
    exact br_f (nI_nlt (b := 8) (by omega) (by omega)) (br_t e8 ⟨rfl, J⟩)
  · exact wx_unitG hN (by omega) fun a h1 h2 => wy_unitG (by omega) fun a' f' g1 g2 => ⟨rfl, wr_mk (wr_okp (p := 0) ok (by omega) (by omega)) (wr_RXp hN hx h1 h2 (fun i hi => pk_un (by omega)) pk_us) (wr_RYp hy g1 g2 (fun i hi => pk_un (by omega)) pk_us)⟩
theorem i_vc_none {k : Nat} {u : SX} {v : SY} (I : i_Rel k u v) (hk : k + 3 ≤ 1537) : wpX_none (fun r u' => wpY_none (fun r' v' => r' = r ∧ i_Rel (k + 3) u' v') v) u := by
  have J := i_up I
  obtain ⟨N, D, T, L, A, S, sx, lx, ox, sy, ly, oy, fy, ok, rfl, rfl, hx, hy⟩ := I
  obtain ⟨hN1, hN, hD, hT, hs⟩ := id ok
  by_cases hd : D = 8
  · have e8 : nI D = 8 := by rw [hd]; rfl
    exact br_f (nI_nlt (b := 8) (by omega) (by omega)) (br_t e8 ⟨rfl, J⟩)
  · exact wx_noneG hN (by omega) fun a h1 h2 => wy_noneG (by omega) fun a' f' g1 g2 => ⟨rfl, wr_mk (wr_okp (p := 0) ok (by omega) (by omega)) (wr_RXp hN hx h1 h2 (fun i hi => pk_un (by omega)) pk_us) (wr_RYp hy g1 g2 (fun i hi => pk_un (by omega)) pk_us)⟩
theorem i_vc_cat {k : Nat} {u : SX} {v : SY} (I : i_Rel k u v) (hk : k + 3 ≤ 1537) : wpX_cat (fun r u' => wpY_cat (fun r' v' => r' = r ∧ i_Rel (k + 3) u' v') v) u := by
  have J := i_up I
  obtain ⟨N, D, T, L, A, S, sx, lx, ox, sy, ly, oy, fy, ok, rfl, rfl, hx, hy⟩ := I
  obtain ⟨hN1, hN, hD, hT, hs⟩ := id ok
  by_cases hd : 2 ≤ D
  · exact wx_cat hN hd hD (hx.2.1 _ (by omega)) (hx.2.1 _ (by omega)) fun a h1 h2 => wy_cat hd hD (hy.2.1 _ (by omega)) (hy.2.1 _ (by omega)) fun a' f' g1 g2 => ⟨rfl, wr_mk (wr_okm ok hd) (wr_RXm hN hd hx h1 h2.1) (wr_RYm hd hy g1 g2)⟩
  · have g : ¬ 2 ≤ nI D := nI_ge (b := 2) (by omega) (by decide)
    exact br_f g (br_f g ⟨rfl, J⟩)
theorem i_vc_alt {k : Nat} {u : SX} {v : SY} (I : i_Rel k u v) (hk : k + 3 ≤ 1537) : wpX_alt (fun r u' => wpY_alt (fun r' v' => r' = r ∧ i_Rel (k + 3) u' v') v) u := by
  have J := i_up I
  obtain ⟨N, D, T, L, A, S, sx, lx, ox, sy, ly, oy, fy, ok, rfl, rfl, hx, hy⟩ := I
  obtain ⟨hN1, hN, hD, hT, hs⟩ := id ok
  by_cases hd : 2 ≤ D
  · exact wx_alt hN hd hD (hx.2.1 _ (by omega)) (hx.2.1 _ (by omega)) fun a h1 h2 => wy_alt hd hD (hy.2.1 _ (by omega)) (hy.2.1 _ (by omega)) fun a' f' g1 g2 => ⟨rfl, wr_mk (wr_okm ok hd) (wr_RXm hN hd hx h1 h2.1) (wr_RYm hd hy g1 g2)⟩
  · have g : ¬ 2 ≤ nI D := nI_ge (b := 2) (by omega) (by decide)
    exact br_f g (br_f g ⟨rfl, J⟩)
theorem i_vc_star {k : Nat} {u : SX} {v : SY} (I : i_Rel k u v) (hk : k + 3 ≤ 1537) : wpX_star (fun r u' => wpY_star (fun r' v' => r' = r ∧ i_Rel (k + 3) u' v') v) u := by
  have J := i_up I
  obtain ⟨N, D, T, L, A, S, sx, lx, ox, sy, ly, oy, fy, ok, rfl, rfl, hx, hy⟩ := I
  obtain ⟨hN1, hN, hD, hT, hs⟩ := id ok
  by_cases hd : 1 ≤ D
  · exact wx_star hN1 hN hd hD (hx.2.1 _ (by omega)) fun a h1 h2 => wy_star hd hD (hy.2.1 _ (by omega)) fun a' f' g1 g2 => ⟨rfl, wr_mk ok (wr_RXs hN hd hx h1 h2.1) (wr_RYs hd hy g1 g2)⟩
  · have e0 : nI D = 0 := by rw [show D = 0 by omega]; rfl
    exact br_f (nI_ge (b := 1) (by omega) (by decide)) (br_t e0 ⟨rfl, J⟩)
theorem i_vc_plus {k : Nat} {u : SX} {v : SY} (I : i_Rel k u v) (hk : k + 3 ≤ 1537) : wpX_plus (fun r u' => wpY_plus (fun r' v' => r' = r ∧ i_Rel (k + 3) u' v') v) u := by
  have J := i_up I
  obtain ⟨N, D, T, L, A, S, sx, lx, ox, sy, ly, oy, fy, ok, rfl, rfl, hx, hy⟩ := I
  obtain ⟨hN1, hN, hD, hT, hs⟩ := id ok
  by_cases hd : 1 ≤ D
  · exact wx_plus hN1 hN hd hD (hx.2.1 _ (by omega)) fun a h1 h2 => wy_plus hd hD (hy.2.1 _ (by omega)) fun a' f' g1 g2 => ⟨rfl, wr_mk ok (wr_RXs hN hd hx h1 h2.1) (wr_RYs hd hy g1 g2)⟩
  · have e0 : nI D = 0 := by rw [show D = 0 by omega]; rfl
    exact br_f (nI_ge (b := 1) (by omega) (by decide)) (br_t e0 ⟨rfl, J⟩)
theorem i_vc_opt {k : Nat} {u : SX} {v : SY} (I : i_Rel k u v) (hk : k + 3 ≤ 1537) : wpX_opt (fun r u' => wpY_opt (fun r' v' => r' = r ∧ i_Rel (k + 3) u' v') v) u := by
  have J := i_up I
  obtain ⟨N, D, T, L, A, S, sx, lx, ox, sy, ly, oy, fy, ok, rfl, rfl, hx, hy⟩ := I
  obtain ⟨hN1, hN, hD, hT, hs⟩ := id ok
  by_cases hd : 1 ≤ D
  · exact wx_opt hd hD (hx.2.1 _ (by omega)) fun a h1 h2 => wy_opt hd hD (hy.2.1 _ (by omega)) fun a' g1 g2 => ⟨rfl, wr_mk ok (wr_RXs hN hd hx h1 h2.1) (wr_RYs hd hy g1 g2)⟩
  · have e0 : nI D = 0 := by rw [show D = 0 by omega]; rfl
    exact br_f (nI_ge (b := 1) (by omega) (by decide)) (br_t e0 ⟨rfl, J⟩)
theorem i_vc_reverse {k : Nat} {u : SX} {v : SY} (I : i_Rel k u v) (hk : k + 3 ≤ 1537) : wpX_reverse (fun r u' => wpY_reverse (fun r' v' => r' = r ∧ i_Rel (k + 3) u' v') v) u := by
  have J := i_up I
  obtain ⟨N, D, T, L, A, S, sx, lx, ox, sy, ly, oy, fy, ok, rfl, rfl, hx, hy⟩ := I
  obtain ⟨hN1, hN, hD, hT, hs⟩ := id ok
  by_cases hd : 1 ≤ D
  · exact wx_reverse hN1 hN hd hD (hx.2.1 _ (by omega)) fun a h1 h2 => wy_reverse hd hD (hy.2.1 _ (by omega)) fun a' f' g1 g2 => ⟨rfl, wr_mk ok (wr_RXs hN hd hx h1 h2.1) (wr_RYs hd hy g1 g2)⟩
  · have e0 : nI D = 0 := by rw [show D = 0 by omega]; rfl
    exact br_f (nI_ge (b := 1) (by omega) (by decide)) (br_t e0 ⟨rfl, J⟩)
theorem i_vc_store {k : Nat} {u : SX} {v : SY} (I : i_Rel k u v) (hk : k + 3 ≤ 1537) (v1 : Int32) : wpX_store (fun r u' => wpY_store (fun r' v' => r' = r ∧ i_Rel (k + 3) u' v') v v1) u v1 := by
  have J := i_up I
  obtain ⟨N, D, T, L, A, S, sx, lx, ox, sy, ly, oy, fy, ok, rfl, rfl, hx, hy⟩ := I
  obtain ⟨hN1, hN, hD, hT, hs⟩ := id ok
  rcases wr_len (N := 2) (by decide) v1 with (h | ⟨h0, h⟩) | ⟨j, hj, rfl⟩
  · exact br_t h (br_t h ⟨rfl, J⟩)
  · obtain ⟨j, hj, rfl⟩ := nI_of h0
    have h := (nI_ltI (by decide) hj).mp h
    exact br_f h0 (br_f (nI_nlt (b := 3) (by omega) hj) (br_f h0 (br_f (nI_ge (a := 2) h hj) ⟨rfl, J⟩)))
  · by_cases hd : 1 ≤ D
    · exact wx_store hN hd hD (by omega) (hx.2.1 _ (by omega)) fun a h1 h2 => wy_store hd hD (by omega) (hy.2.1 _ (by omega)) fun a' g1 g2 g3 => ⟨rfl, wr_mk (wr_okt ok) (wr_RXt hN hx h1 h2) (wr_RYt hy g1 g2 g3)⟩
    · have e0 : nI D = 0 := by rw [show D = 0 by omega]; rfl
      have g0 : ¬ nI j < 0 := nI_pos (by omega)
      exact br_f g0 (br_t (nI_lt (b := 3) (by omega) (by decide)) (br_f (nI_ge (b := 1) (by omega) (by decide)) (br_f g0 (br_t (nI_le (b := 2) hj (by decide)) (br_t e0 ⟨rfl, J⟩)))))
theorem i_vc_discard {k : Nat} {u : SX} {v : SY} (I : i_Rel k u v) (hk : k + 3 ≤ 1537) : wpX_discard (fun u' => wpY_discard (fun v' => i_Rel (k + 3) u' v') v) u := by
  obtain ⟨N, D, T, L, A, S, sx, lx, ox, sy, ly, oy, fy, ok, rfl, rfl, hx, hy⟩ := I
  have e : wr_ok N 0 T L := ⟨ok.1, ok.2.1, Nat.zero_le _, ok.2.2.2.1, Nat.zero_le _⟩
  exact wr_mk (k := k + 3) (A := A) (S := S) e ⟨fun i hi => absurd hi (Nat.not_lt_zero i), fun i hi => absurd hi (Nat.not_lt_zero i), hx.2.2⟩ ⟨fun i hi => absurd hi (Nat.not_lt_zero i), fun i hi => absurd hi (Nat.not_lt_zero i), hy.2.2⟩
theorem i_vc_depth {k : Nat} {u : SX} {v : SY} (I : i_Rel k u v) (hk : k + 3 ≤ 1537) : wpX_depth (fun r => wpY_depth (fun r' => r' = r ∧ i_Rel (k + 3) u v) v) u := by
  have J := i_up I
  obtain ⟨N, D, T, L, A, S, sx, lx, ox, sy, ly, oy, fy, ok, rfl, rfl, hx, hy⟩ := I
  exact ⟨rfl, J⟩
theorem i_vc_letters {k : Nat} {u : SX} {v : SY} (I : i_Rel k u v) (hk : k + 3 ≤ 1537) : wpX_letters (fun r => wpY_letters (fun r' => r' = r ∧ i_Rel (k + 3) u v) v) u := by
  have J := i_up I
  obtain ⟨N, D, T, L, A, S, sx, lx, ox, sy, ly, oy, fy, ok, rfl, rfl, hx, hy⟩ := I
  exact wx_letters ok.2.2.1 hx.1 (wy_letters ok.2.2.1 hy.1 ⟨rfl, J⟩)
theorem i_vc_choose {k : Nat} {u : SX} {v : SY} (I : i_Rel k u v) (hk : k + 3 ≤ 1537) (v1 : Int32) : wpX_choose (fun r u' => wpY_choose (fun r' v' => r' = r ∧ i_Rel (k + 3) u' v') v v1) u v1 := by
  have J := i_up I
  obtain ⟨N, D, T, L, A, S, sx, lx, ox, sy, ly, oy, fy, ok, rfl, rfl, hx, hy⟩ := I
  by_cases h0 : v1 < 0
  · exact br_t h0 (br_t h0 ⟨rfl, J⟩)
  · by_cases h5 : v1 ≤ 255
    · obtain ⟨j, hj, rfl⟩ := nI_of2 (M := 255) (n := 255) (by decide) h0 h5
      have e : wr_ok N D j L := ⟨ok.1, ok.2.1, ok.2.2.1, hj, ok.2.2.2.2⟩
      exact br_f h0 (br_t h5 (br_f h0 (br_t h5 ⟨rfl, wr_mk e hx hy⟩)))
    · exact br_f h0 (br_f h5 (br_f h0 (br_f h5 ⟨rfl, J⟩)))
theorem i_vc_count {k : Nat} {u : SX} {v : SY} (I : i_Rel k u v) (hk : k + 3 ≤ 1537) (v1 : Int32) : wpX_count (fun r => wpY_count (fun r' => r' = r ∧ i_Rel (k + 3) u v) v v1) u v1 := by
  have J := i_up I
  obtain ⟨N, D, T, L, A, S, sx, lx, ox, sy, ly, oy, fy, ok, rfl, rfl, hx, hy⟩ := I
  obtain ⟨hN1, hN, hD, hT, hs⟩ := id ok
  rcases wr_len hN v1 with h | ⟨l, hl, rfl⟩
  · exact wx_countB h (wy_countB hN h ⟨rfl, J⟩)
  · exact wx_countG hN hT hx.2.2 hl (wy_countG hN hT hy.2.2 hl ⟨rfl, J⟩)
theorem i_vc_total {k : Nat} {u : SX} {v : SY} (I : i_Rel k u v) (hk : k + 3 ≤ 1537) : wpX_total (fun r => wpY_total (fun r' => r' = r ∧ i_Rel (k + 3) u v) v) u := by
  have J := i_up I
  obtain ⟨N, D, T, L, A, S, sx, lx, ox, sy, ly, oy, fy, ok, rfl, rfl, hx, hy⟩ := I
  obtain ⟨hN1, hN, hD, hT, hs⟩ := id ok
  exact wx_total hN hT hx.2.2 (wy_total hN hT hy.2.2 ⟨rfl, J⟩)
theorem i_vc_isChosen {k : Nat} {u : SX} {v : SY} (I : i_Rel k u v) (hk : k + 3 ≤ 1537) (v1 : Int32) (v2 : Int32) : wpX_isChosen (fun r => wpY_isChosen (fun r' => r' = r ∧ i_Rel (k + 3) u v) v v1 v2) u v1 v2 := by
  have J := i_up I
  obtain ⟨N, D, T, L, A, S, sx, lx, ox, sy, ly, oy, fy, ok, rfl, rfl, hx, hy⟩ := I
  obtain ⟨hN1, hN, hD, hT, hs⟩ := id ok
  rcases wr_val hN v1 v2 with h | ⟨l, b, hl, hb, rfl, rfl⟩
  · exact wx_isChosenB hN h (wy_isChosenB hN h ⟨rfl, J⟩)
  · exact wx_isChosenG hN hT hx.2.2 hl hb (wy_isChosenG hN hT hy.2.2 hl hb ⟨rfl, J⟩)
theorem i_vc_rank {k : Nat} {u : SX} {v : SY} (I : i_Rel k u v) (hk : k + 3 ≤ 1537) (v1 : Int32) (v2 : Int32) : wpX_rank (fun r => wpY_rank (fun r' => r' = r ∧ i_Rel (k + 3) u v) v v1 v2) u v1 v2 := by
  have J := i_up I
  obtain ⟨N, D, T, L, A, S, sx, lx, ox, sy, ly, oy, fy, ok, rfl, rfl, hx, hy⟩ := I
  obtain ⟨hN1, hN, hD, hT, hs⟩ := id ok
  rcases wr_val hN v1 v2 with h | ⟨l, b, hl, hb, rfl, rfl⟩
  · exact wx_rankB hN h (wy_rankB hN h ⟨rfl, J⟩)
  · exact wx_rankG hN hT hx.2.2 hl hb (wy_rankG hN hT hy.2.2 hl hb ⟨rfl, J⟩)
theorem i_vc_wordLen {k : Nat} {u : SX} {v : SY} (I : i_Rel k u v) (hk : k + 3 ≤ 1537) (v1 : Int32) : wpX_wordLen (fun r => wpY_wordLen (fun r' => r' = r ∧ i_Rel (k + 3) u v) v v1) u v1 := by
  have J := i_up I
  obtain ⟨N, D, T, L, A, S, sx, lx, ox, sy, ly, oy, fy, ok, rfl, rfl, hx, hy⟩ := I
  obtain ⟨hN1, hN, hD, hT, hs⟩ := id ok
  have hM := wr_256 hN
  refine wx_wordLen hN hT hx.2.2 (fun f => wy_wordLen hN hT hy.2.2 (fun _ => ⟨rfl, J⟩) (fun r h1 _ g => absurd (wr_Fu hM f g) (by omega))) (fun r h1 _ f => wy_wordLen hN hT hy.2.2 (fun g => absurd (wr_Fu hM f g) (by omega)) (fun s _ _ g => ⟨?_, J⟩))
  rw [wr_Fu hM f g]
theorem i_vc_wordBits {k : Nat} {u : SX} {v : SY} (I : i_Rel k u v) (hk : k + 3 ≤ 1537) (v1 : Int32) : wpX_wordBits (fun r => wpY_wordBits (fun r' => r' = r ∧ i_Rel (k + 3) u v) v v1) u v1 := by
  have J := i_up I
  obtain ⟨N, D, T, L, A, S, sx, lx, ox, sy, ly, oy, fy, ok, rfl, rfl, hx, hy⟩ := I
  obtain ⟨hN1, hN, hD, hT, hs⟩ := id ok
  have hM := wr_256 hN
  refine wx_wordBits hN hT hx.2.2 (fun f => wy_wordBits hN hT hy.2.2 (fun _ => ⟨rfl, J⟩) (fun r h1 _ g => absurd (wr_Fu hM f g) (by omega))) (fun r h1 _ f => wy_wordBits hN hT hy.2.2 (fun g => absurd (wr_Fu hM f g) (by omega)) (fun s _ _ g => ⟨?_, J⟩))
  rw [wr_Fu hM f g]
theorem i_vc_countFrom {k : Nat} {u : SX} {v : SY} (I : i_Rel k u v) (hk : k + 3 ≤ 1537) (v1 : Int32) (v2 : Int32) : wpX_countFrom (fun r => wpY_countFrom (fun r' => r' = r ∧ i_Rel (k + 3) u v) v v1 v2) u v1 v2 := by
  have J := i_up I
  obtain ⟨N, D, T, L, A, S, sx, lx, ox, sy, ly, oy, fy, ok, rfl, rfl, hx, hy⟩ := I
  obtain ⟨hN1, hN, hD, hT, hs⟩ := id ok
  rcases wr_val hN v1 v2 with h | ⟨l, b, hl, hb, rfl, rfl⟩
  · exact wx_countFromB hN h (wy_countFromB hN h ⟨rfl, J⟩)
  · exact wx_countFromG hN hT hx.2.2 hl hb (wy_countFromG hN hT hy.2.2 hl hb ⟨rfl, J⟩)
theorem i_vc_groups {k : Nat} {u : SX} {v : SY} (I : i_Rel k u v) (hk : k + 3 ≤ 1537) (v1 : Int32) : wpX_groups (fun r => wpY_groups (fun r' => r' = r ∧ i_Rel (k + 3) u v) v v1) u v1 := by
  have J := i_up I
  obtain ⟨N, D, T, L, A, S, sx, lx, ox, sy, ly, oy, fy, ok, rfl, rfl, hx, hy⟩ := I
  obtain ⟨hN1, hN, hD, hT, hs⟩ := id ok
  rcases wr_len hN v1 with h | ⟨l, hl, rfl⟩
  · exact wx_groupsB h (wy_groupsB h ⟨rfl, J⟩)
  · exact wx_groupsG hN hT hx.2.2 hl (wy_groupsG hN hT hy.2.2 hl ⟨rfl, J⟩)
