/-! the squares along a walk; parity; the crawler's ways -/
def sqs (z : Int) : Int := z / 343 / 7 + z / 343 % 7
section P22M
variable {C R np : Int} {N : Int → Int} {gn : Nat → Int} {b lim : Int}
theorem aft_sq (hF : FlOK C R np N gn) {z d : Int} (hz : PlOK R z) (hd0 : 0 ≤ d) (hd : d ≤ 3) (h : aftZ C R N z d ≠ -1) :
    (d = 0 ∧ aftZ C R N z d / 343 / 7 = z / 343 / 7 ∧ aftZ C R N z d / 343 % 7 = z / 343 % 7 - 1) ∨ (d = 1 ∧ aftZ C R N z d / 343 / 7 = z / 343 / 7 + 1 ∧ aftZ C R N z d / 343 % 7 = z / 343 % 7) ∨ (d = 2 ∧ aftZ C R N z d / 343 / 7 = z / 343 / 7 ∧ aftZ C R N z d / 343 % 7 = z / 343 % 7 + 1) ∨ (d = 3 ∧ aftZ C R N z d / 343 / 7 = z / 343 / 7 - 1 ∧ aftZ C R N z d / 343 % 7 = z / 343 % 7) := by
  obtain ⟨hC1, hC2, hR1, hR2, -, -, -, -⟩ := id hF
  obtain ⟨h0, h1, h2⟩ := hz
  rcases (show d = 0 ∨ d = 1 ∨ d = 2 ∨ d = 3 by omega) with rfl | rfl | rfl | rfl
  · rw [aftZ_0] at h ⊢
    obtain ⟨e1, e2, -⟩ := plZ_c hR2 (by omega) h
    exact Or.inl ⟨rfl, e1, e2⟩
  · rw [aftZ_1] at h ⊢
    have hw := wRZ_b hF (c := z / 343 / 7) (r := z / 343 % 7) (w := z % 343) (by omega) (by omega) (by omega)
    obtain ⟨e1, e2, -⟩ := plZ_c hR2 hw.1 h
    exact Or.inr (Or.inl ⟨rfl, e1, e2⟩)
  · rw [aftZ_2] at h ⊢
    obtain ⟨e1, e2, -⟩ := plZ_c hR2 (by omega) h
    exact Or.inr (Or.inr (Or.inl ⟨rfl, e1, e2⟩))
  · rw [aftZ_3] at h ⊢
    have hw := wLZ_b hF (c := z / 343 / 7 - 1) (r := z / 343 % 7) (w := z % 343) (by omega) (by omega) (by omega)
    obtain ⟨e1, e2, -⟩ := plZ_c hR2 hw.1 h
    exact Or.inr (Or.inr (Or.inr ⟨rfl, e1, e2⟩))
theorem aft_sqs (hF : FlOK C R np N gn) {z d : Int} (hz : PlOK R z) (hd0 : 0 ≤ d) (hd : d ≤ 3) (h : aftZ C R N z d ≠ -1) : sqs (aftZ C R N z d) = sqs z + 1 ∨ sqs (aftZ C R N z d) = sqs z - 1 := by
  unfold sqs
  rcases aft_sq hF hz hd0 hd h with ⟨-, e1, e2⟩ | ⟨-, e1, e2⟩ | ⟨-, e1, e2⟩ | ⟨-, e1, e2⟩ <;> rw [e1, e2] <;> omega
theorem wk_par (hF : FlOK C R np N gn) : ∀ (k : Nat) (x y : Int), PlOK R x → wkZ C R N k x y → ((k : Int) + sqs x + sqs y) % 2 = 0 := by
  intro k
  induction k with
  | zero => intro x y hx h; have h : x = y := h; subst h; omega
  | succ k ih =>
    intro x y hx h
    obtain ⟨d, d0, d3, dn, h⟩ := h
    have h1 := ih _ y (aftZ_pl hF hx dn) h
    have h2 := aft_sqs hF hx d0 d3 dn
    omega
theorem LZ_par (hF : FlOK C R np N gn) (hb : GdZ C R N (b * 343)) {z : Int} (hz : 0 ≤ LZ C R N b z) : (LZ C R N b z + sqs (b * 343) + sqs z) % 2 = 0 := by
  have h := wk_par hF _ _ _ hb.pl (LZ_ex hF hb (LZ C R N b z).toNat z (by omega))
  rw [Int.toNat_of_nonneg hz] at h
  exact h
theorem LZ_far (hF : FlOK C R np N gn) (hb : GdZ C R N (b * 343)) {z : Int} (hz : 0 ≤ LZ C R N b z) : apZ (b * 343) z ≤ LZ C R N b z := by
  have h := wkZ_ap hF _ _ _ hb.pl (LZ_ex hF hb (LZ C R N b z).toNat z (by omega))
  omega
theorem LZ_st (hF : FlOK C R np N gn) (hb : GdZ C R N (b * 343)) {z d : Int} (hz : 0 ≤ LZ C R N b z) (d0 : 0 ≤ d) (d3 : d ≤ 3) (hn : aftZ C R N z d ≠ -1) : 0 ≤ LZ C R N b (aftZ C R N z d) ∧ (LZ C R N b (aftZ C R N z d) = LZ C R N b z + 1 ∨ LZ C R N b (aftZ C R N z d) = LZ C R N b z - 1) := by
  have h1 := LZ_to hF hb hz d0 d3 hn
  have hg := LZ_gd hF hb hz
  have hk := aftZ_back hF hg d0 d3 hn
  have hz0 := hg.1
  have h2 := LZ_to hF hb h1.1 (rvZ_b d).1 (rvZ_b d).2 (by rw [hk.2]; omega)
  rw [hk.2] at h2
  have p1 := LZ_par hF hb hz
  have p2 := LZ_par hF hb h1.1
  have hs := aft_sqs hF hg.pl d0 d3 hn
  omega
theorem LZ_z (hF : FlOK C R np N gn) (hb : GdZ C R N (b * 343)) {z : Int} (hz : LZ C R N b z = 0) : z = b * 343 := (LZ_ex hF hb 0 z hz).symm
theorem al_end (hF : FlOK C R np N gn) (hb : GdZ C R N (b * 343)) {z : Int} (hz : 0 ≤ LZ C R N b z) : alZ C R N (LZ C R N b) z (LZ C R N b z).toNat = b * 343 := by
  have h := al_L hF hb hz (LZ C R N b z).toNat (by omega)
  exact LZ_z hF hb (by omega)
theorem ast_ne {L : Int → Int} {z d : Int} (h : astZ C R N L lim z d ≠ -1) : astZ C R N L lim z d = aftZ C R N z d ∧ aftZ C R N z d ≠ -1 ∧ L (aftZ C R N z d) ≠ -1 ∧ L (aftZ C R N z d) ≤ lim := by
  unfold astZ at h ⊢
  split at h
  · rename_i hc
    rw [if_pos hc]
    exact ⟨rfl, h, hc⟩
  · exact absurd rfl h
theorem bi_wk {L : Int → Int} {s : Int} {G : Int → Prop} {S : BS} {k : Nat} (h : BI (astZ C R N L lim) s G S k 0) (hG : ∀ z, G z → 0 ≤ z) : ∀ (n : Nat) (z : Int), z ∈ S.1 → S.2.1 z = (n : Int) → wkZ C R N n s z := by
  obtain ⟨-, -, h3, h4, h5, h6, -, -, -⟩ := id h
  have hnn : ∀ z ∈ S.1, 0 ≤ S.2.1 z := fun z hz => by
    rcases h3 z with g | g
    · exact absurd hz g.2
    · exact g.1
  intro n
  induction n with
  | zero =>
    intro z hz hD
    by_cases hs : z = s
    · exact hs.symm
    · obtain ⟨g1, g2, -⟩ := h6 z hz hs
      have := hnn _ g1
      omega
  | succ n ih =>
    intro z hz hD
    by_cases hs : z = s
    · rw [hs, h5.1] at hD; omega
    · obtain ⟨g1, g2, e, e0, e3, he⟩ := h6 z hz hs
      have hz0 := hG z (h4 z hz)
      have ha := ast_ne (L := L) (lim := lim) (z := S.2.2 z) (d := e) (by rw [he]; omega)
      have h7 := ih _ g1 (by omega)
      have h8 := wkZ_snoc n s _ e h7 e0 e3 ha.2.1
      rw [← ha.1, he] at h8
      exact h8
theorem bsK_b {nb : Int → Int → Int} {S : BS} {f : Int} (h : ∀ z, S.2.1 z < (S.1.length : Int)) : ∀ d : Nat, ∀ z, (bsK nb S f d).2.1 z < ((bsK nb S f d).1.length : Int) := by
  intro d
  induction d with
  | zero => exact h
  | succ d ih => exact bsR_b ih
theorem BI_Q {nb : Int → Int → Int} {s : Int} {G : Int → Prop} (hG : ∀ f d : Int, 0 ≤ d → d ≤ 3 → G f → nb f d ≠ -1 → G (nb f d)) (q : Int) : ∀ (n i : Nat) (S : BS), BI nb s G S i 0 → (∀ (j : Nat) (y : Int), j < i → S.1[j]? = some y → y / 343 ≠ q) → (∀ z, S.2.1 z < (S.1.length : Int)) →
    ∃ k, BI nb s G (bsF nb q n i S).2 k 0 ∧ (∀ (j : Nat) (y : Int), j < k → (bsF nb q n i S).2.1[j]? = some y → y / 343 ≠ q) ∧ (∀ z, (bsF nb q n i S).2.2.1 z < ((bsF nb q n i S).2.1.length : Int)) ∧ (((bsF nb q n i S).1 = -1 ∧ ((bsF nb q n i S).2.1.length ≤ k ∨ k = i + n)) ∨ ((bsF nb q n i S).2.1[k]? = some (bsF nb q n i S).1 ∧ (bsF nb q n i S).1 / 343 = q)) := by
  intro n
  induction n with
  | zero => intro i S h hp hd; exact ⟨i, h, hp, hd, Or.inl ⟨rfl, Or.inr rfl⟩⟩
  | succ n ih =>
    intro i S h hp hd
    by_cases hl : i < S.1.length
    · by_cases hq : bsAt S i / 343 = q
      · rw [show bsF nb q (n + 1) i S = (bsAt S i, S) by show (if i < S.1.length then (if bsAt S i / 343 = q then (bsAt S i, S) else bsF nb q n (i + 1) (bsK nb S (bsAt S i) 4)) else (-1, S)) = _; rw [if_pos hl, if_pos hq]]
        exact ⟨i, h, hp, hd, Or.inr ⟨bsAt_some hl, hq⟩⟩
      · rw [show bsF nb q (n + 1) i S = bsF nb q n (i + 1) (bsK nb S (bsAt S i) 4) by show (if i < S.1.length then (if bsAt S i / 343 = q then (bsAt S i, S) else bsF nb q n (i + 1) (bsK nb S (bsAt S i) 4)) else (-1, S)) = _; rw [if_pos hl, if_neg hq]]
        obtain ⟨k, k1, k2, k3, k4⟩ := ih (i + 1) _ (BI_i (BI_K h (bsAt_some hl) (fun d h0 h3 => hG _ d h0 h3) 4 (Nat.le_refl _)) (by decide)) (fun j y hj hy => by
          have hj2 := bsAt_some (S := S) (i := j) (by omega)
          have hj3 := bsK_at nb S (bsAt S i) 4 j _ hj2
          rw [hj3] at hy
          have hy := Option.some.inj hy
          rw [← hy]
          rcases Nat.lt_or_eq_of_le (Nat.le_of_lt_succ hj) with g | g
          · exact hp j _ g hj2
          · rw [g]; exact hq) (bsK_b hd 4)
        exact ⟨k, k1, k2, k3, k4.imp (fun g => ⟨g.1, g.2.imp id (fun g => by omega)⟩) id⟩
    · rw [show bsF nb q (n + 1) i S = (-1, S) by show (if i < S.1.length then (if bsAt S i / 343 = q then (bsAt S i, S) else bsF nb q n (i + 1) (bsK nb S (bsAt S i) 4)) else (-1, S)) = _; rw [if_neg hl]]
      exact ⟨i, h, hp, hd, Or.inl ⟨rfl, Or.inl (Nat.le_of_not_lt hl)⟩⟩
def GSZ (C R : Int) (N : Int → Int) (b lim z : Int) : Prop := GdZ C R N z ∧ 0 ≤ LZ C R N b z ∧ LZ C R N b z ≤ lim
/-- the crawler's search for a square -/
def goX (C R : Int) (N : Int → Int) (b lim P q : Int) : Int × BS := bsF (astZ C R N (LZ C R N b) lim) q 16807 0 (bs0 P)
theorem go_q (hF : FlOK C R np N gn) (hb : GdZ C R N (b * 343)) {P : Int} (hP : 0 ≤ LZ C R N b P) (hPl : LZ C R N b P ≤ lim) (q : Int) :
    ∃ k, BI (astZ C R N (LZ C R N b) lim) P (GSZ C R N b lim) (goX C R N b lim P q).2 k 0 ∧ (∀ (j : Nat) (y : Int), j < k → (goX C R N b lim P q).2.1[j]? = some y → y / 343 ≠ q) ∧ (∀ z, (goX C R N b lim P q).2.2.1 z < ((goX C R N b lim P q).2.1.length : Int)) ∧ (((goX C R N b lim P q).1 = -1 ∧ ((goX C R N b lim P q).2.1.length ≤ k ∨ k = 0 + 16807)) ∨ ((goX C R N b lim P q).2.1[k]? = some (goX C R N b lim P q).1 ∧ (goX C R N b lim P q).1 / 343 = q)) := by
  refine BI_Q (fun f d h0 h3 hf hn => ?_) q 16807 0 (bs0 P) (BI_0 ⟨LZ_gd hF hb hP, hP, hPl⟩) (fun j y h => absurd h (by omega)) (fun z => by show (if z = P then (0 : Int) else -1) < 1; split <;> omega)
  have h1 := astZ_gd hF hf.1 h0 h3 hn
  have h2 := LZ_b hF hb (astZ C R N (LZ C R N b) lim f d)
  obtain ⟨e1, e2, e3, e4⟩ := ast_ne hn
  rw [e1] at h1 h2 ⊢
  exact ⟨h1, by omega, e4⟩
theorem go_all (hF : FlOK C R np N gn) (hb : GdZ C R N (b * 343)) {P q : Int} (hP : 0 ≤ LZ C R N b P) (hPl : LZ C R N b P ≤ lim) (hX : (goX C R N b lim P q).1 ≠ -1) :
    (0 ≤ (goX C R N b lim P q).2.2.1 (goX C R N b lim P q).1 ∧ (goX C R N b lim P q).2.2.1 (goX C R N b lim P q).1 < 20000) ∧ GSZ C R N b lim (goX C R N b lim P q).1 ∧ (goX C R N b lim P q).1 / 343 = q ∧ wkZ C R N ((goX C R N b lim P q).2.2.1 (goX C R N b lim P q).1).toNat P (goX C R N b lim P q).1 := by
  obtain ⟨k, k1, k2, k3, k4⟩ := go_q hF hb hP hPl q
  generalize goX C R N b lim P q = X at *
  rcases k4 with k4 | ⟨k4, k5⟩
  · exact absurd k4.1 hX
  · have hm := List.mem_of_getElem? k4
    have hD : 0 ≤ X.2.2.1 X.1 := by
      rcases k1.2.2.1 X.1 with g | g
      · exact absurd hm g.2
      · exact g.1
    have hg := k1.2.2.2.1 _ hm
    have hln := gd_len (C := C) (R := R) (N := N) k1.1 (fun z hz => (k1.2.2.2.1 z hz).1)
    have h3 := k3 X.1
    exact ⟨⟨hD, by omega⟩, hg, k5, bi_wk k1 (fun z hz => hz.1.1) _ _ hm (by omega)⟩
/-- how a way's steps and the lengths at its ends go together -/
theorem go_len (hF : FlOK C R np N gn) (hb : GdZ C R N (b * 343)) {P z : Int} {k : Nat} (hP : 0 ≤ LZ C R N b P) (h : wkZ C R N k P z) : LZ C R N b z ≤ LZ C R N b P + k ∧ ((k : Int) + LZ C R N b P + LZ C R N b z) % 2 = 0 := by
  have h1 := LZ_wk hF hb k P z hP h
  have p0 := wk_par hF _ _ _ (LZ_gd hF hb hP).pl h
  have p1 := LZ_par hF hb hP
  have p2 := LZ_par hF hb h1.1
  exact ⟨h1.2, by omega⟩
end P22M
section LSM
variable {L : Int → Int} {lim q : Int}
theorem ls_le (q : Int) : ∀ (n w : Nat), w < n → L (q * 343 + w) ≠ -1 → lsN L q n ≠ -1 ∧ lsN L q n ≤ L (q * 343 + w) := by
  intro n
  induction n with
  | zero => intro w h; omega
  | succ n ih =>
    intro w h hw
    have hs : lsN L q (n + 1) = if L (q * 343 + n) ≠ -1 ∧ (lsN L q n = -1 ∨ L (q * 343 + n) < lsN L q n) then L (q * 343 + n) else lsN L q n := rfl
    rcases Nat.lt_or_eq_of_le (Nat.le_of_lt_succ h) with g | g
    · have h1 := ih w g hw
      rw [hs]
      split <;> omega
    · subst g
      rw [hs]
      split <;> omega
theorem ls_at (q : Int) : ∀ n : Nat, lsN L q n = -1 ∨ ∃ w : Nat, w < n ∧ L (q * 343 + w) = lsN L q n ∧ L (q * 343 + w) ≠ -1 := by
  intro n
  induction n with
  | zero => exact Or.inl rfl
  | succ n ih =>
    have hs : lsN L q (n + 1) = if L (q * 343 + n) ≠ -1 ∧ (lsN L q n = -1 ∨ L (q * 343 + n) < lsN L q n) then L (q * 343 + n) else lsN L q n := rfl
    rw [hs]
    split
    · rename_i hc
      exact Or.inr ⟨n, Nat.lt_succ_self n, rfl, hc.1⟩
    · exact ih.imp id (fun ⟨w, h1, h2⟩ => ⟨w, Nat.lt_succ_of_lt h1, h2⟩)
theorem wd_pos : ∀ n : Nat, (0 < wdN L lim q n ∧ ∃ w : Nat, w < n ∧ L (q * 343 + w) ≠ -1 ∧ L (q * 343 + w) ≤ lim) ∨ (wdN L lim q n = 0 ∧ ∀ w : Nat, w < n → ¬ (L (q * 343 + w) ≠ -1 ∧ L (q * 343 + w) ≤ lim)) := by
  intro n
  induction n with
  | zero => exact Or.inr ⟨rfl, fun w h => absurd h (by omega)⟩
  | succ n ih =>
    have hs : wdN L lim q (n + 1) = wdN L lim q n + if L (q * 343 + n) ≠ -1 ∧ L (q * 343 + n) ≤ lim then 1 else 0 := rfl
    rw [hs]
    by_cases hc : L (q * 343 + n) ≠ -1 ∧ L (q * 343 + n) ≤ lim
    · rw [if_pos hc]
      have := (wdN_b L lim q n).1
      exact Or.inl ⟨by omega, n, Nat.lt_succ_self n, hc⟩
    · rw [if_neg hc]
      rcases ih with ⟨h1, w, h2, h3⟩ | ⟨h1, h2⟩
      · exact Or.inl ⟨by omega, w, Nat.lt_succ_of_lt h2, h3⟩
      · refine Or.inr ⟨by omega, fun w hw => ?_⟩
        rcases Nat.lt_or_eq_of_le (Nat.le_of_lt_succ hw) with g | g
        · exact h2 w g
        · rw [g]; exact hc
theorem wd_ls (hb : ∀ z, -1 ≤ L z) : (0 < wdN L lim q 343 ∧ 0 ≤ lsZ L q ∧ lsZ L q ≤ lim) ∨ (wdN L lim q 343 = 0 ∧ ¬ (0 ≤ lsZ L q ∧ lsZ L q ≤ lim)) := by
  rcases wd_pos (L := L) (lim := lim) (q := q) 343 with ⟨h1, w, h2, h3⟩ | ⟨h1, h2⟩
  · have h4 := ls_le (L := L) q 343 w h2 h3.1
    rcases ls_at (L := L) q 343 with h5 | ⟨w2, -, h6, h7⟩
    · exact absurd h5 h4.1
    · have := hb (q * 343 + w2)
      unfold lsZ
      exact Or.inl ⟨h1, by omega, by omega⟩
  · refine Or.inr ⟨h1, fun h => ?_⟩
    rcases ls_at (L := L) q 343 with h5 | ⟨w2, h5, h6, h7⟩
    · unfold lsZ at h; omega
    · unfold lsZ at h
      exact h2 w2 h5 ⟨h7, by omega⟩
end LSM
