/-! the crawler's search in the reference -/
theorem ast_yes {C R : Int} {N L : Int → Int} {lim z d : Int} (hm : aftZ C R N z d = -1 ∨ (0 ≤ aftZ C R N z d ∧ aftZ C R N z d < 16807)) (h : tM (aftZ C R N z d) ≠ -1 ∧ L (tauZ (tM (aftZ C R N z d))) ≠ -1 ∧ L (tauZ (tM (aftZ C R N z d))) ≤ lim) : astZ C R N L lim z d = aftZ C R N z d ∧ aftZ C R N z d ≠ -1 := by
  rcases tM_b hm with ⟨h1, -⟩ | ⟨h0, h1, h2, h3, h4⟩
  · exact absurd h1 h.1
  · rw [h4, tauZ_tauZ h2 h3] at h
    unfold astZ
    rw [if_pos ⟨h.2.1, h.2.2⟩]
    exact ⟨rfl, by omega⟩
theorem ast_no {C R : Int} {N L : Int → Int} {lim z d : Int} (hL : L (-1) = -1) (hm : aftZ C R N z d = -1 ∨ (0 ≤ aftZ C R N z d ∧ aftZ C R N z d < 16807)) (h : ¬ (tM (aftZ C R N z d) ≠ -1 ∧ L (tauZ (tM (aftZ C R N z d))) ≠ -1 ∧ L (tauZ (tM (aftZ C R N z d))) ≤ lim)) : astZ C R N L lim z d = -1 := by
  unfold astZ
  rcases tM_b hm with ⟨-, h1⟩ | ⟨h0, h1, h2, h3, h4⟩
  · rw [h1, hL, if_neg (fun k => k.1 rfl)]
  · rw [h4, tauZ_tauZ h2 h3] at h
    rw [if_neg (fun k => h ⟨by omega, k.1, k.2⟩)]
theorem MBOK.at {S : BS} {gb gq : Nat → Int} (h : MBOK S gb gq) {y : Int} (h0 : 0 ≤ y) (h1 : y < 16807) (hp : S.2.1 y ≠ -1 → 0 ≤ S.2.2 y ∧ S.2.2 y < 16807) : ∃ v : Int, gb (tauZ y).toNat = v ∧ ((S.2.1 y = -1 ∧ v = -1) ∨ (S.2.1 y ≠ -1 ∧ 0 ≤ v ∧ v < 16807 ∧ v = tauZ (S.2.2 y))) := by
  have h2 := h.1 y h0 h1
  by_cases hd : S.2.1 y = -1
  · rw [if_pos hd] at h2
    exact ⟨-1, h2, Or.inl ⟨hd, rfl⟩⟩
  · rw [if_neg hd] at h2
    obtain ⟨k1, k2⟩ := hp hd
    have k3 := tauZ_of k1 k2
    exact ⟨_, h2, Or.inr ⟨hd, k3.1, k3.2.1, rfl⟩⟩
/-- where a place of a search was come to from -/
theorem BI_pa {nb : Int → Int → Int} {s : Int} {C R : Int} {N : Int → Int} {S : BS} {i : Nat} {d : Int} (h : BI nb s (GdZ C R N) S i d) (y : Int) (hy : S.2.1 y ≠ -1) : 0 ≤ S.2.2 y ∧ S.2.2 y < 16807 := by
  obtain ⟨h1, h2, h3, h4, h5, h6, -⟩ := h
  have hm : y ∈ S.1 := by
    rcases h3 y with g | g
    · exact absurd g.1 hy
    · exact g.2
  by_cases hys : y = s
  · rw [hys, h5.2]
    have := h4 s (hys ▸ hm)
    exact ⟨this.1, this.2.1⟩
  · have := h4 _ (h6 y hm hys).1
    exact ⟨this.1, this.2.1⟩
theorem sq_tau {z q : Int} (h0 : 0 ≤ z) (h1 : z < 16807) (hq0 : 0 ≤ q) (hq1 : q < 49) : tauZ z / 343 = q ↔ z / 343 = q % 7 * 7 + q / 7 := by
  obtain ⟨-, -, -, -, -, e⟩ := tauZ_of h0 h1
  rw [e]
  omega
/-- the crawler's search at its end -/
theorem go_ok {C R np : Int} {N : Int → Int} {gn : Nat → Int} {b lim P q : Int} (hF : FlOK C R np N gn) (hb : GdZ C R N (b * 343)) (hP : 0 ≤ LZ C R N b P) (hPl : LZ C R N b P ≤ lim) :
    ∃ k, BI (astZ C R N (LZ C R N b) lim) P (fun z => GdZ C R N z ∧ 0 ≤ LZ C R N b z ∧ LZ C R N b z ≤ lim) (bsF (astZ C R N (LZ C R N b) lim) q 16807 0 (bs0 P)).2 k 0 ∧ ((bsF (astZ C R N (LZ C R N b) lim) q 16807 0 (bs0 P)).1 = -1 ∨ ((bsF (astZ C R N (LZ C R N b) lim) q 16807 0 (bs0 P)).1 ∈ (bsF (astZ C R N (LZ C R N b) lim) q 16807 0 (bs0 P)).2.1 ∧ (bsF (astZ C R N (LZ C R N b) lim) q 16807 0 (bs0 P)).1 / 343 = q)) := by
  refine BI_F (fun f d h0 h3 hf hn => ?_) q 16807 0 _ (BI_0 ⟨LZ_gd hF hb hP, hP, hPl⟩)
  have h1 := astZ_gd hF hf.1 h0 h3 hn
  have h2 := LZ_b hF hb (astZ C R N (LZ C R N b) lim f d)
  unfold astZ at hn h1 h2 ⊢
  split at hn
  · rename_i hc
    rw [if_pos hc] at h1 h2 ⊢
    exact ⟨h1, by omega, hc.2⟩
  · exact absurd rfl hn
