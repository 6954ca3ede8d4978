/-! reduced words: no letter behind its opposite; steps lead back -/
def rdZ : Nat → Int → Prop
  | 0, w => w = 0
  | n + 1, w => w = 0 ∨ (w % 7 ≠ 0 ∧ (w / 7 % 7 = 0 ∨ w / 7 % 7 - 1 ≠ oppZ (w % 7 - 1)) ∧ rdZ n (w / 7))
theorem rdZ_s : ∀ (n : Nat) (w : Int), rdZ n w → rdZ (n + 1) w := by
  intro n
  induction n with
  | zero => intro w h; exact Or.inl h
  | succ n ih =>
    intro w h
    rcases h with h | ⟨h1, h2, h3⟩
    · exact Or.inl h
    · exact Or.inr ⟨h1, h2, ih _ h3⟩
theorem rdZ_add (n k : Nat) (w : Int) (h : rdZ n w) : rdZ (n + k) w := by
  induction k with
  | zero => exact h
  | succ k ih => exact rdZ_s _ _ ih
theorem rdZ_lt : ∀ (k n : Nat) (w : Int), 0 ≤ w → w < 7 ^ k → rdZ n w → rdZ k w := by
  intro k
  induction k with
  | zero => intro n w h0 h1 _; show w = 0; simp at h1; omega
  | succ k ih =>
    intro n w h0 h1 h
    cases n with
    | zero => exact Or.inl h
    | succ n =>
      rcases h with h | ⟨h2, h3, h4⟩
      · exact Or.inl h
      · refine Or.inr ⟨h2, h3, ih n (w / 7) (by omega) ?_ h4⟩
        have : (7 : Int) ^ (k + 1) = 7 ^ k * 7 := Int.pow_succ 7 k
        omega
theorem wjZ_rd {n : Nat} {w k : Int} (h0 : 0 ≤ w) (hk : 0 ≤ k) (hk5 : k ≤ 5) (h : rdZ n w) : rdZ (n + 1) (wjZ w k) := by
  unfold wjZ
  split
  · rename_i hc
    cases n with
    | zero => have h : w = 0 := h; subst h; exact Or.inl (by decide)
    | succ n =>
      rcases h with h | ⟨h1, h2, h3⟩
      · subst h; exact Or.inl (by decide)
      · exact rdZ_s _ _ (rdZ_s _ _ h3)
  · rename_i hc
    refine Or.inr ⟨by omega, ?_, ?_⟩
    · rw [show (w * 7 + k + 1) / 7 = w by omega, show (w * 7 + k + 1) % 7 - 1 = k by omega]
      exact Or.inr hc
    · rw [show (w * 7 + k + 1) / 7 = w by omega]
      exact h
theorem wjZ_back {n : Nat} {w k : Int} (h0 : 0 ≤ w) (hk : 0 ≤ k) (hk5 : k ≤ 5) (h : rdZ n w) : wjZ (wjZ w k) (oppZ k) = w := by
  have ho := oppZ_b hk hk5
  have hoo := oppZ_opp hk hk5
  by_cases hc : w % 7 - 1 = oppZ k
  · have e : wjZ w k = w / 7 := if_pos hc
    rw [e]
    unfold wjZ
    rw [if_neg]
    · omega
    · rw [hoo]
      cases n with
      | zero => have h : w = 0 := h; subst h; omega
      | succ n =>
        rcases h with h | ⟨h1, h2, h3⟩
        · subst h; omega
        · rw [hc, hoo] at h2
          rcases h2 with h2 | h2
          · omega
          · exact h2
  · have e : wjZ w k = w * 7 + k + 1 := if_neg hc
    rw [e]
    unfold wjZ
    rw [if_pos (by rw [hoo]; omega)]
    omega
theorem stR_nn {C R np : Int} {N : Int → Int} {gn : Nat → Int} (hF : FlOK C R np N gn) {c r w : Int} (h0 : 0 ≤ w) : 0 ≤ stR N c r w := (stR_b hF (B := w + 1) h0 (by omega)).1
theorem stL_nn {C R np : Int} {N : Int → Int} {gn : Nat → Int} (hF : FlOK C R np N gn) {c r w : Int} (h0 : 0 ≤ w) : 0 ≤ stL N c r w := (stL_b hF (B := w + 1) h0 (by omega)).1
theorem stR_rd {C R np : Int} {N : Int → Int} {gn : Nat → Int} (hF : FlOK C R np N gn) {n : Nat} {c r w : Int} (h0 : 0 ≤ w) (h : rdZ n w) : rdZ (n + 1) (stR N c r w) := by
  have h2 := hF.N2 (c * 7 + r)
  unfold stR
  split
  · exact rdZ_s _ _ h
  · exact wjZ_rd h0 (by omega) (by omega) h
theorem stL_rd {C R np : Int} {N : Int → Int} {gn : Nat → Int} (hF : FlOK C R np N gn) {n : Nat} {c r w : Int} (h0 : 0 ≤ w) (h : rdZ n w) : rdZ (n + 1) (stL N c r w) := by
  have h2 := hF.N2 (c * 7 + r)
  unfold stL
  split
  · exact rdZ_s _ _ h
  · have := oppZ_b (k := 2 * N (c * 7 + r)) (by omega) (by omega)
    exact wjZ_rd h0 this.1 this.2 h
theorem stL_stR {C R np : Int} {N : Int → Int} {gn : Nat → Int} (hF : FlOK C R np N gn) {n : Nat} {c r w : Int} (h0 : 0 ≤ w) (h : rdZ n w) : stL N c r (stR N c r w) = w := by
  have h2 := hF.N2 (c * 7 + r)
  by_cases hc : N (c * 7 + r) = -1
  · unfold stL stR; rw [if_pos hc, if_pos hc]
  · unfold stL stR; rw [if_neg hc, if_neg hc]
    exact wjZ_back h0 (by omega) (by omega) h
theorem stR_stL {C R np : Int} {N : Int → Int} {gn : Nat → Int} (hF : FlOK C R np N gn) {n : Nat} {c r w : Int} (h0 : 0 ≤ w) (h : rdZ n w) : stR N c r (stL N c r w) = w := by
  have h2 := hF.N2 (c * 7 + r)
  by_cases hc : N (c * 7 + r) = -1
  · unfold stL stR; rw [if_pos hc, if_pos hc]
  · have h3 := oppZ_b (k := 2 * N (c * 7 + r)) (by omega) (by omega)
    have h4 := oppZ_opp (k := 2 * N (c * 7 + r)) (by omega) (by omega)
    have h5 := wjZ_back h0 h3.1 h3.2 h
    rw [h4] at h5
    unfold stL stR; rw [if_neg hc, if_neg hc]
    exact h5
theorem wRn_rd {C R np : Int} {N : Int → Int} {gn : Nat → Int} (hF : FlOK C R np N gn) {k : Nat} {c b w : Int} (h0 : 0 ≤ w) (h : rdZ k w) : ∀ n : Nat, 0 ≤ wRn N c n b w ∧ rdZ (k + n) (wRn N c n b w) := by
  intro n
  induction n with
  | zero => exact ⟨h0, h⟩
  | succ n ih => exact ⟨stR_nn hF ih.1, stR_rd hF ih.1 ih.2⟩
theorem wLn_rd {C R np : Int} {N : Int → Int} {gn : Nat → Int} (hF : FlOK C R np N gn) {c b : Int} : ∀ (n k : Nat) (w : Int), 0 ≤ w → rdZ k w → 0 ≤ wLn N c n b w ∧ rdZ (k + n) (wLn N c n b w) := by
  intro n
  induction n with
  | zero => intro k w h0 h; exact ⟨h0, h⟩
  | succ n ih =>
    intro k w h0 h
    have h1 := ih (k + 1) _ (stL_nn hF (c := c) (r := b + n) h0) (stL_rd hF h0 h)
    rw [show k + (n + 1) = k + 1 + n by omega]
    exact h1
theorem wLR {C R np : Int} {N : Int → Int} {gn : Nat → Int} (hF : FlOK C R np N gn) {k : Nat} {c b w : Int} (h0 : 0 ≤ w) (h : rdZ k w) : ∀ n : Nat, wLn N c n b (wRn N c n b w) = w := by
  intro n
  induction n with
  | zero => rfl
  | succ n ih =>
    show wLn N c n b (stL N c (b + n) (stR N c (b + n) (wRn N c n b w))) = w
    have h1 := wRn_rd hF (c := c) (b := b) h0 h n
    rw [stL_stR hF h1.1 h1.2]
    exact ih
theorem wRL {C R np : Int} {N : Int → Int} {gn : Nat → Int} (hF : FlOK C R np N gn) {c b : Int} : ∀ (n k : Nat) (w : Int), 0 ≤ w → rdZ k w → wRn N c n b (wLn N c n b w) = w := by
  intro n
  induction n with
  | zero => intro k w _ _; rfl
  | succ n ih =>
    intro k w h0 h
    show stR N c (b + n) (wRn N c n b (wLn N c n b (stL N c (b + n) w))) = w
    rw [ih (k + 1) _ (stL_nn hF h0) (stL_rd hF h0 h), stR_stL hF h0 h]
/-- a place of the floor: free, its word reduced -/
def GdZ (C R : Int) (N : Int → Int) (z : Int) : Prop := 0 ≤ z ∧ z < 16807 ∧ z / 343 / 7 < C ∧ z / 343 % 7 < R ∧ N (z / 343) = -1 ∧ rdZ 3 (z % 343)
theorem GdZ.pl {C R : Int} {N : Int → Int} {z : Int} (h : GdZ C R N z) : PlOK R z := ⟨h.1, h.2.1, h.2.2.2.1⟩
theorem plZ_mk {C R : Int} {N : Int → Int} {a b w : Int} (hw : w < 343) (ha0 : 0 ≤ a) (ha : a < C) (hb0 : 0 ≤ b) (hb : b < R) (hn : N (a * 7 + b) = -1) : plZ C R N a b w = (a * 7 + b) * 343 + w := by
  unfold plZ
  rw [if_pos ⟨hw, ha0, ha, hb0, hb, hn⟩]
def rvZ (d : Int) : Int := if d = 0 then 2 else if d = 1 then 3 else if d = 2 then 0 else 1
theorem aftZ_back {C R np : Int} {N : Int → Int} {gn : Nat → Int} (hF : FlOK C R np N gn) {z d : Int} (hz : GdZ C R N z) (hd0 : 0 ≤ d) (hd : d ≤ 3) (h : aftZ C R N z d ≠ -1) : GdZ C R N (aftZ C R N z d) ∧ aftZ C R N (aftZ C R N z d) (rvZ d) = z := by
  obtain ⟨z0, z1, zc, zr, zn, zw⟩ := hz
  have hC := hF.2.1
  have hR := hF.2.2.2.1
  have zn' : N (z / 343 / 7 * 7 + z / 343 % 7) = -1 := by rw [show z / 343 / 7 * 7 + z / 343 % 7 = z / 343 by omega]; exact zn
  have zz : (z / 343 / 7 * 7 + z / 343 % 7) * 343 + z % 343 = z := by omega
  rcases (show d = 0 ∨ d = 1 ∨ d = 2 ∨ d = 3 by omega) with rfl | rfl | rfl | rfl
  · rw [aftZ_0] at h ⊢
    obtain ⟨e1, e2, e3, g1, g2, g3, g4, g5, g6, g7⟩ := plZ_c hR (by omega) h
    refine ⟨⟨by omega, by omega, by omega, by omega, ?_, by rw [e3]; exact zw⟩, ?_⟩
    · rw [show plZ C R N (z / 343 / 7) (z / 343 % 7 - 1) (z % 343) / 343 = z / 343 / 7 * 7 + (z / 343 % 7 - 1) by omega]; exact g6
    · show aftZ C R N _ 2 = z
      rw [aftZ_2, e1, e2, e3, show z / 343 % 7 - 1 + 1 = z / 343 % 7 by omega, plZ_mk (by omega) (by omega) zc (by omega) zr zn', zz]
  · rw [aftZ_1] at h ⊢
    have hw := wRn_rd hF (c := z / 343 / 7) (b := z / 343 % 7 + 1) (k := 3) (w := z % 343) (by omega) zw (R - 1 - z / 343 % 7).toNat
    obtain ⟨e1, e2, e3, g1, g2, g3, g4, g5, g6, g7⟩ := plZ_c hR (show 0 ≤ wRZ N R (z / 343 / 7) (z / 343 % 7) (z % 343) from hw.1) h
    refine ⟨⟨by omega, by omega, by omega, by omega, ?_, ?_⟩, ?_⟩
    · rw [show plZ C R N (z / 343 / 7 + 1) (z / 343 % 7) (wRZ N R (z / 343 / 7) (z / 343 % 7) (z % 343)) / 343 = (z / 343 / 7 + 1) * 7 + z / 343 % 7 by omega]; exact g6
    · rw [e3]; exact rdZ_lt 3 _ _ hw.1 (by show _ < (343 : Int); exact g1) hw.2
    · show aftZ C R N _ 3 = z
      rw [aftZ_3, e1, e2, e3, show z / 343 / 7 + 1 - 1 = z / 343 / 7 by omega, show wLZ N R (z / 343 / 7) (z / 343 % 7) (wRZ N R (z / 343 / 7) (z / 343 % 7) (z % 343)) = z % 343 from wLR hF (by omega) zw _, plZ_mk (by omega) (by omega) zc (by omega) zr zn', zz]
  · rw [aftZ_2] at h ⊢
    obtain ⟨e1, e2, e3, g1, g2, g3, g4, g5, g6, g7⟩ := plZ_c hR (by omega) h
    refine ⟨⟨by omega, by omega, by omega, by omega, ?_, by rw [e3]; exact zw⟩, ?_⟩
    · rw [show plZ C R N (z / 343 / 7) (z / 343 % 7 + 1) (z % 343) / 343 = z / 343 / 7 * 7 + (z / 343 % 7 + 1) by omega]; exact g6
    · show aftZ C R N _ 0 = z
      rw [aftZ_0, e1, e2, e3, show z / 343 % 7 + 1 - 1 = z / 343 % 7 by omega, plZ_mk (by omega) (by omega) zc (by omega) zr zn', zz]
  · rw [aftZ_3] at h ⊢
    have hw := wLn_rd hF (c := z / 343 / 7 - 1) (b := z / 343 % 7 + 1) (R - 1 - z / 343 % 7).toNat 3 (z % 343) (by omega) zw
    obtain ⟨e1, e2, e3, g1, g2, g3, g4, g5, g6, g7⟩ := plZ_c hR (show 0 ≤ wLZ N R (z / 343 / 7 - 1) (z / 343 % 7) (z % 343) from hw.1) h
    refine ⟨⟨by omega, by omega, by omega, by omega, ?_, ?_⟩, ?_⟩
    · rw [show plZ C R N (z / 343 / 7 - 1) (z / 343 % 7) (wLZ N R (z / 343 / 7 - 1) (z / 343 % 7) (z % 343)) / 343 = (z / 343 / 7 - 1) * 7 + z / 343 % 7 by omega]; exact g6
    · rw [e3]; exact rdZ_lt 3 _ _ hw.1 (by show _ < (343 : Int); exact g1) hw.2
    · show aftZ C R N _ 1 = z
      rw [aftZ_1, e1, e2, e3, show z / 343 / 7 - 1 + 1 = z / 343 / 7 by omega, show wRZ N R (z / 343 / 7 - 1) (z / 343 % 7) (wLZ N R (z / 343 / 7 - 1) (z / 343 % 7) (z % 343)) = z % 343 from wRL hF _ 3 _ (by omega) zw, plZ_mk (by omega) (by omega) zc (by omega) zr zn', zz]
theorem rvZ_b (d : Int) : 0 ≤ rvZ d ∧ rvZ d ≤ 3 := by
  unfold rvZ
  (repeat' split) <;> omega
/-- so many reduced words of up to 3 letters; so many places -/
def rdB : Nat → Nat → Bool
  | 0, w => w == 0
  | n + 1, w => w == 0 || (w % 7 != 0 && (w / 7 % 7 == 0 || w / 7 % 7 != (if w % 7 % 2 == 1 then w % 7 + 1 else w % 7 - 1)) && rdB n (w / 7))
def gdL : List Int := (List.range 16807).filterMap (fun k => if rdB 3 (k % 343) then some (k : Int) else none)
theorem gdL_len : gdL.length = 9163 := by decide +kernel
theorem rdB_of : ∀ (n w : Nat), rdZ n (w : Int) → rdB n w = true := by
  intro n
  induction n with
  | zero =>
    intro w h
    have h : (w : Int) = 0 := h
    have : w = 0 := by omega
    subst this
    rfl
  | succ n ih =>
    intro w h
    unfold rdB
    rcases h with h | ⟨h1, h2, h3⟩
    · have : w = 0 := by omega
      subst this
      rfl
    · have h4 := ih (w / 7) h3
      have h5 : (w % 7 != 0) = true := by rw [bne_iff_ne]; omega
      have h6 : (w / 7 % 7 == 0 || w / 7 % 7 != (if w % 7 % 2 == 1 then w % 7 + 1 else w % 7 - 1)) = true := by
        rw [Bool.or_eq_true, beq_iff_eq, bne_iff_ne]
        rcases h2 with h2 | h2
        · left; omega
        · right
          intro h7
          apply h2
          unfold oppZ
          by_cases h8 : w % 7 % 2 = 1
          · rw [if_pos (by rw [beq_iff_eq]; exact h8)] at h7
            rw [if_pos (by omega)]
            omega
          · rw [if_neg (by rw [beq_iff_eq]; exact h8)] at h7
            rw [if_neg (by omega)]
            omega
      rw [h4, h5, h6]
      simp
theorem GdZ.mem {C R : Int} {N : Int → Int} {z : Int} (h : GdZ C R N z) : z ∈ gdL := by
  obtain ⟨z0, z1, -, -, -, zw⟩ := h
  refine List.mem_filterMap.mpr ⟨z.toNat, List.mem_range.mpr (by omega), ?_⟩
  rw [if_pos (rdB_of 3 _ (by rw [show ((z.toNat % 343 : Nat) : Int) = z % 343 by omega]; exact zw))]
  rw [Int.toNat_of_nonneg z0]
theorem nodup_len : ∀ (l k : List Int), l.Nodup → (∀ x ∈ l, x ∈ k) → l.length ≤ k.length := by
  intro l
  induction l with
  | nil => intro k _ _; exact Nat.zero_le _
  | cons a l ih =>
    intro k hn hs
    rw [List.nodup_cons] at hn
    have ha : a ∈ k := hs a List.mem_cons_self
    have h1 := ih (k.erase a) hn.2 (fun x hx => (List.mem_erase_of_ne (show x ≠ a from fun e => hn.1 (by rw [← e]; exact hx))).mpr (hs x (List.mem_cons_of_mem _ hx)))
    have h2 := List.length_erase_of_mem ha
    have h3 : 0 < k.length := List.length_pos_of_mem ha
    rw [List.length_cons]
    omega
theorem gd_len {C R : Int} {N : Int → Int} {l : List Int} (hn : l.Nodup) (hg : ∀ z ∈ l, GdZ C R N z) : l.length ≤ 9163 := by
  rw [← gdL_len]
  exact nodup_len l gdL hn (fun x hx => (hg x hx).mem)
