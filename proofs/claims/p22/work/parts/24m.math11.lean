/-! the search for a square at its end; the lengths from the base -/
theorem BI_F {nb : Int → Int → Int} {s : Int} {G : Int → Prop} (hG : ∀ f d : Int, 0 ≤ d → d ≤ 3 → G f → nb f d ≠ -1 → G (nb f d)) (q : Int) : ∀ (n i : Nat) (S : BS), BI nb s G S i 0 → ∃ k, BI nb s G (bsF nb q n i S).2 k 0 ∧ ((bsF nb q n i S).1 = -1 ∨ ((bsF nb q n i S).1 ∈ (bsF nb q n i S).2.1 ∧ (bsF nb q n i S).1 / 343 = q)) := by
  intro n
  induction n with
  | zero => intro i S h; exact ⟨i, h, Or.inl rfl⟩
  | succ n ih =>
    intro i S h
    by_cases hl : i < S.1.length
    · by_cases hq : bsAt S i / 343 = q
      · rw [show bsF nb q (n + 1) i S = (bsAt S i, S) by show (if i < S.1.length then (if bsAt S i / 343 = q then (bsAt S i, S) else bsF nb q n (i + 1) (bsK nb S (bsAt S i) 4)) else (-1, S)) = _; rw [if_pos hl, if_pos hq]]
        exact ⟨i, h, Or.inr ⟨List.mem_of_getElem? (bsAt_some hl), hq⟩⟩
      · rw [show bsF nb q (n + 1) i S = bsF nb q n (i + 1) (bsK nb S (bsAt S i) 4) by show (if i < S.1.length then (if bsAt S i / 343 = q then (bsAt S i, S) else bsF nb q n (i + 1) (bsK nb S (bsAt S i) 4)) else (-1, S)) = _; rw [if_pos hl, if_neg hq]]
        exact ih (i + 1) _ (BI_i (BI_K h (bsAt_some hl) (fun d h0 h3 => hG _ d h0 h3) 4 (Nat.le_refl _)) (by decide))
    · rw [show bsF nb q (n + 1) i S = (-1, S) by show (if i < S.1.length then (if bsAt S i / 343 = q then (bsAt S i, S) else bsF nb q n (i + 1) (bsK nb S (bsAt S i) 4)) else (-1, S)) = _; rw [if_neg hl]]
      exact ⟨i, h, Or.inl rfl⟩
/-- the length from the base, -1 for none -/
def LZ (C R : Int) (N : Int → Int) (b : Int) : Int → Int := (BF (aftZ C R N) (b * 343)).2.1
theorem LZ_BI {C R np : Int} {N : Int → Int} {gn : Nat → Int} (hF : FlOK C R np N gn) {b : Int} (hb : GdZ C R N (b * 343)) : ∃ k, BI (aftZ C R N) (b * 343) (GdZ C R N) (BF (aftZ C R N) (b * 343)) k 0 ∧ (BF (aftZ C R N) (b * 343)).1.length ≤ k :=
  BF_end (fun f d h0 h3 hf hn => (aftZ_back hF hf h0 h3 hn).1) hb (fun l h1 h2 => Nat.le_trans (gd_len h1 h2) (by decide))
section LZS
variable {C R np : Int} {N : Int → Int} {gn : Nat → Int} {b : Int}
theorem LZ_b (hF : FlOK C R np N gn) (hb : GdZ C R N (b * 343)) (z : Int) : -1 ≤ LZ C R N b z := by
  obtain ⟨k, h, -⟩ := LZ_BI hF hb
  rcases h.2.2.1 z with g | g
  · show -1 ≤ (BF (aftZ C R N) (b * 343)).2.1 z; omega
  · show -1 ≤ (BF (aftZ C R N) (b * 343)).2.1 z; omega
theorem LZ_gd (hF : FlOK C R np N gn) (hb : GdZ C R N (b * 343)) {z : Int} (hz : 0 ≤ LZ C R N b z) : GdZ C R N z := by
  obtain ⟨k, h, -⟩ := LZ_BI hF hb
  have hz : 0 ≤ (BF (aftZ C R N) (b * 343)).2.1 z := hz
  rcases h.2.2.1 z with g | g
  · omega
  · exact h.2.2.2.1 z g.2
theorem LZ_0 (hF : FlOK C R np N gn) (hb : GdZ C R N (b * 343)) : LZ C R N b (b * 343) = 0 := by
  obtain ⟨k, h, -⟩ := LZ_BI hF hb
  exact h.2.2.2.2.1.1
theorem LZ_n1 (hF : FlOK C R np N gn) (hb : GdZ C R N (b * 343)) : LZ C R N b (-1) = -1 := by
  have h1 := LZ_b hF hb (-1)
  by_cases h : 0 ≤ LZ C R N b (-1)
  · have := (LZ_gd hF hb h).1; omega
  · omega
theorem LZ_to (hF : FlOK C R np N gn) (hb : GdZ C R N (b * 343)) {z d : Int} (hz : 0 ≤ LZ C R N b z) (h0 : 0 ≤ d) (h3 : d ≤ 3) (hn : aftZ C R N z d ≠ -1) : 0 ≤ LZ C R N b (aftZ C R N z d) ∧ LZ C R N b (aftZ C R N z d) ≤ LZ C R N b z + 1 := by
  obtain ⟨k, h, hk⟩ := LZ_BI hF hb
  have hz : 0 ≤ (BF (aftZ C R N) (b * 343)).2.1 z := hz
  have hm : z ∈ (BF (aftZ C R N) (b * 343)).1 := by
    rcases h.2.2.1 z with g | g
    · omega
    · exact g.2
  obtain ⟨g1, g2⟩ := BF_close h hk hm h0 h3 hn
  refine ⟨?_, g2⟩
  rcases h.2.2.1 (aftZ C R N z d) with g | g
  · exact absurd g1 g.2
  · exact g.1
theorem LZ_pa (hF : FlOK C R np N gn) (hb : GdZ C R N (b * 343)) {z : Int} (hz : 0 ≤ LZ C R N b z) (hzb : z ≠ b * 343) : ∃ y e, 0 ≤ e ∧ e ≤ 3 ∧ aftZ C R N y e = z ∧ 0 ≤ LZ C R N b y ∧ LZ C R N b z = LZ C R N b y + 1 := by
  obtain ⟨k, h, hk⟩ := LZ_BI hF hb
  have hz : 0 ≤ (BF (aftZ C R N) (b * 343)).2.1 z := hz
  have hm : z ∈ (BF (aftZ C R N) (b * 343)).1 := by
    rcases h.2.2.1 z with g | g
    · omega
    · exact g.2
  obtain ⟨g1, g2, e, e0, e3, he⟩ := h.2.2.2.2.2.1 z hm hzb
  refine ⟨_, e, e0, e3, he, ?_, g2⟩
  rcases h.2.2.1 ((BF (aftZ C R N) (b * 343)).2.2 z) with g | g
  · exact absurd g1 g.2
  · exact g.1
theorem LZ_dn (hF : FlOK C R np N gn) (hb : GdZ C R N (b * 343)) {z : Int} (hz : 0 < LZ C R N b z) : ∃ d, 0 ≤ d ∧ d ≤ 3 ∧ aftZ C R N z d ≠ -1 ∧ LZ C R N b (aftZ C R N z d) = LZ C R N b z - 1 := by
  have h0 := LZ_0 hF hb
  obtain ⟨y, e, e0, e3, he, hy, hyz⟩ := LZ_pa hF hb (z := z) (by omega) (fun h => by rw [h] at hz; omega)
  have hyg := LZ_gd hF hb hy
  have hz0 := (LZ_gd hF hb (z := z) (by omega)).1
  obtain ⟨k1, k2⟩ := aftZ_back hF hyg e0 e3 (by rw [he]; omega)
  rw [he] at k2
  have hr : 0 ≤ rvZ e ∧ rvZ e ≤ 3 := by unfold rvZ; (repeat' split) <;> omega
  have hy0 := hyg.1
  exact ⟨rvZ e, hr.1, hr.2, by rw [k2]; omega, by rw [k2]; omega⟩
theorem cd_ok (hF : FlOK C R np N gn) (hb : GdZ C R N (b * 343)) {z : Int} (hz : 0 < LZ C R N b z) : 0 ≤ cdZ C R N (LZ C R N b) z ∧ cdZ C R N (LZ C R N b) z ≤ 3 ∧ LZ C R N b (aftZ C R N z (cdZ C R N (LZ C R N b) z)) = LZ C R N b z - 1 := by
  obtain ⟨d, d0, d3, hn, hd⟩ := LZ_dn hF hb hz
  unfold cdZ
  rw [if_neg (by omega)]
  by_cases h0 : LZ C R N b (aftZ C R N z 0) = LZ C R N b z - 1
  · rw [if_pos h0]; exact ⟨by omega, by omega, h0⟩
  · rw [if_neg h0]
    by_cases h1 : LZ C R N b (aftZ C R N z 1) = LZ C R N b z - 1
    · rw [if_pos h1]; exact ⟨by omega, by omega, h1⟩
    · rw [if_neg h1]
      by_cases h2 : LZ C R N b (aftZ C R N z 2) = LZ C R N b z - 1
      · rw [if_pos h2]; exact ⟨by omega, by omega, h2⟩
      · rw [if_neg h2]
        by_cases h3 : LZ C R N b (aftZ C R N z 3) = LZ C R N b z - 1
        · rw [if_pos h3]; exact ⟨by omega, by omega, h3⟩
        · exfalso
          rcases (show d = 0 ∨ d = 1 ∨ d = 2 ∨ d = 3 by omega) with rfl | rfl | rfl | rfl
          · exact h0 hd
          · exact h1 hd
          · exact h2 hd
          · exact h3 hd
theorem al_L (hF : FlOK C R np N gn) (hb : GdZ C R N (b * 343)) {z : Int} (hz : 0 ≤ LZ C R N b z) : ∀ j : Nat, (j : Int) ≤ LZ C R N b z → LZ C R N b (alZ C R N (LZ C R N b) z j) = LZ C R N b z - j := by
  intro j
  induction j with
  | zero => intro _; show LZ C R N b z = LZ C R N b z - 0; omega
  | succ j ih =>
    intro hj
    have h1 := ih (by omega)
    have h2 := (cd_ok hF hb (z := alZ C R N (LZ C R N b) z j) (by omega)).2.2
    show LZ C R N b (aftZ C R N (alZ C R N (LZ C R N b) z j) (cdZ C R N (LZ C R N b) (alZ C R N (LZ C R N b) z j))) = _
    omega
theorem al_gd (hF : FlOK C R np N gn) (hb : GdZ C R N (b * 343)) {z : Int} (hz : 0 ≤ LZ C R N b z) {j : Nat} (hj : (j : Int) ≤ LZ C R N b z) : GdZ C R N (alZ C R N (LZ C R N b) z j) := by
  have h1 := al_L hF hb hz j hj
  exact LZ_gd hF hb (by omega)
theorem al_ok (hF : FlOK C R np N gn) (hb : GdZ C R N (b * 343)) {z k : Int} (hz : 0 ≤ LZ C R N b z) (hk : k ≤ LZ C R N b z) : AlOK C R N (LZ C R N b) z k := by
  intro j hj
  have h1 := al_L hF hb hz j (by omega)
  have h2 := cd_ok hF hb (z := alZ C R N (LZ C R N b) z j) (by omega)
  exact ⟨(al_gd hF hb hz (j := j) (by omega)).pl, h2.1, h2.2.1⟩
theorem wkZ_snoc : ∀ (k : Nat) (x y e : Int), wkZ C R N k x y → 0 ≤ e → e ≤ 3 → aftZ C R N y e ≠ -1 → wkZ C R N (k + 1) x (aftZ C R N y e) := by
  intro k
  induction k with
  | zero => intro x y e h h0 h3 hn; have h : x = y := h; subst h; exact ⟨e, h0, h3, hn, rfl⟩
  | succ k ih =>
    intro x y e h h0 h3 hn
    obtain ⟨d, d0, d3, dn, h⟩ := h
    exact ⟨d, d0, d3, dn, ih _ y e h h0 h3 hn⟩
theorem LZ_wk (hF : FlOK C R np N gn) (hb : GdZ C R N (b * 343)) : ∀ (k : Nat) (x z : Int), 0 ≤ LZ C R N b x → wkZ C R N k x z → 0 ≤ LZ C R N b z ∧ LZ C R N b z ≤ LZ C R N b x + k := by
  intro k
  induction k with
  | zero => intro x z hx h; have h : x = z := h; subst h; omega
  | succ k ih =>
    intro x z hx h
    obtain ⟨d, d0, d3, dn, h⟩ := h
    have h1 := LZ_to hF hb hx d0 d3 dn
    have h2 := ih _ z h1.1 h
    omega
theorem LZ_ex (hF : FlOK C R np N gn) (hb : GdZ C R N (b * 343)) : ∀ (n : Nat) (z : Int), LZ C R N b z = (n : Int) → wkZ C R N n (b * 343) z := by
  intro n
  induction n with
  | zero =>
    intro z hz
    by_cases h : z = b * 343
    · exact h.symm
    · obtain ⟨y, e, e0, e3, he, hy, hyz⟩ := LZ_pa hF hb (z := z) (by omega) h
      omega
  | succ n ih =>
    intro z hz
    have h0 := LZ_0 hF hb
    obtain ⟨y, e, e0, e3, he, hy, hyz⟩ := LZ_pa hF hb (z := z) (by omega) (fun h => by rw [h] at hz; omega)
    have h1 := ih y (by omega)
    have hz0 := (LZ_gd hF hb (z := z) (by omega)).1
    have h2 := wkZ_snoc n _ y e h1 e0 e3 (by rw [he]; omega)
    rw [he] at h2
    exact h2
/-- what trying finds -/
theorem FW_L (hF : FlOK C R np N gn) (hb : GdZ C R N (b * 343)) {z mo r : Int} (hz : 0 ≤ LZ C R N b z) (hm : 0 ≤ mo) (h : FW C R N (b * 343) z 0 mo r) : (LZ C R N b z ≤ mo → r = LZ C R N b z) ∧ (¬ LZ C R N b z ≤ mo → mo < r) := by
  obtain ⟨h1, h2, h3, -⟩ := h
  have h0 := LZ_0 hF hb
  have hb0 := hb.1
  have h4 := h2 (by omega) (LZ C R N b z).toNat (LZ_ex hF hb _ z (by omega))
  have h5 : r = mo + 1 ∨ LZ C R N b z ≤ r := by
    rcases h3 with h3 | ⟨-, k, hk, h3⟩
    · exact Or.inl h3
    · have := (LZ_wk hF hb k (b * 343) z (by omega) hk).2
      exact Or.inr (by omega)
  constructor
  · intro h; omega
  · intro h; omega
end LZS
