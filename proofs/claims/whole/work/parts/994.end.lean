/-! the law, from its start to its end -/
theorem lw_c {L i : Nat} (hL : L ≤ 3072) (hi : i ≤ 4000) : (Int32.ofNat L - (6 : Int32) < oi i) ↔ L < i + 6 := by
  show (oi L - (6 : Int32) < oi i) ↔ L < i + 6
  by_cases h : 6 ≤ L
  · rw [show (6 : Int32) = oi 6 from rfl, oi_sub h, oi_lt (by omega) (by omega)]; omega
  · refine ⟨fun _ => by omega, fun _ => ?_⟩
    rw [Int32.lt_iff_toInt_lt, oi_int (show i < 2147483648 by omega)]
    have hl := (by decide +kernel : ∀ l, l < 6 → (oi l - (6 : Int32)).toInt < 0) L (by omega)
    omega
theorem inv_up {n : Nat} {σ : OM} (h : Inv n σ) : Inv (n + 1) σ := by
  obtain ⟨h1, ⟨p, p1, p2, p3⟩, h3, h4⟩ := h
  exact ⟨h1, ⟨p, by omega, p2, p3⟩, h3, by omega⟩
theorem law_all (xs : Nat → Int32) {L : Nat} (hL : L ≤ 3072) : ∀ m n (σ : OM), n ≤ 512 → 514 ≤ m + n → Inv n σ → ∃ σ', fL_law_b23 xs L m (oi (6 * n)) σ = some (1, σ') := by
  intro m
  induction m with
  | zero => intro n σ h1 h2 h3; omega
  | succ m ih =>
    intro n σ h1 h2 h3
    rw [fL_law_b23]
    by_cases hc : L < 6 * n + 6
    · rw [if_pos ((lw_c hL (by omega)).mpr hc)]; exact ⟨σ, rfl⟩
    · rw [if_neg (fun q => hc ((lw_c hL (by omega)).mp q)), ogi (by omega) (by omega)]
      have hi : 6 * n + 6 ≤ L := by omega
      have hn : n < 600 := by omega
      have h6 : oi (6 * n) + 6 = oi (6 * (n + 1)) := by
        rw [show (6 : Int32) = oi 6 from rfl, oi_add]; congr 1
      have go : ∀ σ', Inv (n + 1) σ' → ∃ σ'', fL_law_b23 xs L m (oi (6 * n) + 6) σ' = some (1, σ'') := fun σ' h => by
        rw [h6]; exact ih (n + 1) σ' (by omega) (by omega) h
      generalize xs (oi (6 * n)).toNatClampNeg &&& 63 = k
      by_cases e0 : k = 0
      · obtain ⟨σ', a1, a2⟩ := lw_0 (xs := xs) hL hi hn h3
        rw [if_pos e0, a2]; exact go σ' a1
      rw [if_neg e0]
      by_cases e1 : k = 1
      · obtain ⟨σ', a1, a2⟩ := lw_1 (xs := xs) hL hi hn h3
        rw [if_pos e1, a2]; exact go σ' a1
      rw [if_neg e1]
      by_cases e2 : k = 2
      · obtain ⟨σ', a1, a2⟩ := lw_2 (xs := xs) hL hi hn h3
        rw [if_pos e2, a2]; exact go σ' a1
      rw [if_neg e2]
      by_cases e3 : k = 3
      · obtain ⟨σ', a1, a2⟩ := lw_3 (xs := xs) hL hi hn h3
        rw [if_pos e3, a2]; exact go σ' a1
      rw [if_neg e3]
      by_cases e4 : k = 4
      · obtain ⟨σ', a1, a2⟩ := lw_4 (xs := xs) hL hi hn h3
        rw [if_pos e4, a2]; exact go σ' a1
      rw [if_neg e4]
      by_cases e5 : k = 5
      · obtain ⟨σ', a1, a2⟩ := lw_5 (xs := xs) hL hi hn h3
        rw [if_pos e5, a2]; exact go σ' a1
      rw [if_neg e5]
      by_cases e6 : k = 6
      · obtain ⟨σ', a1, a2⟩ := lw_6 (xs := xs) hL hi hn h3
        rw [if_pos e6, a2]; exact go σ' a1
      rw [if_neg e6]
      by_cases e7 : k = 7
      · obtain ⟨σ', a1, a2⟩ := lw_7 (xs := xs) hL hi hn h3
        rw [if_pos e7, a2]; exact go σ' a1
      rw [if_neg e7]
      by_cases e8 : k = 8
      · obtain ⟨σ', a1, a2⟩ := lw_8 (xs := xs) hL hi hn h3
        rw [if_pos e8, a2]; exact go σ' a1
      rw [if_neg e8]
      by_cases e9 : k = 9
      · obtain ⟨σ', a1, a2⟩ := lw_9 (xs := xs) hL hi hn h3
        rw [if_pos e9, a2]; exact go σ' a1
      rw [if_neg e9]
      by_cases e10 : k = 10
      · obtain ⟨σ', a1, a2⟩ := lw_10 (xs := xs) hL hi hn h3
        rw [if_pos e10, a2]; exact go σ' a1
      rw [if_neg e10]
      by_cases e11 : k = 11
      · obtain ⟨σ', a1, a2⟩ := lw_11 (xs := xs) hL hi hn h3
        rw [if_pos e11, a2]; exact go σ' a1
      rw [if_neg e11]
      by_cases e12 : k = 12
      · obtain ⟨σ', a1, a2⟩ := lw_12 (xs := xs) hL hi hn h3
        rw [if_pos e12, a2]; exact go σ' a1
      rw [if_neg e12]
      by_cases e13 : k = 13
      · obtain ⟨σ', a1, a2⟩ := lw_13 (xs := xs) hL hi hn h3
        rw [if_pos e13, a2]; exact go σ' a1
      rw [if_neg e13]
      by_cases e14 : k = 14
      · obtain ⟨σ', a1, a2⟩ := lw_14 (xs := xs) hL hi hn h3
        rw [if_pos e14, a2]; exact go σ' a1
      rw [if_neg e14]
      by_cases e15 : k = 15
      · obtain ⟨σ', a1, a2⟩ := lw_15 (xs := xs) hL hi hn h3
        rw [if_pos e15, a2]; exact go σ' a1
      rw [if_neg e15]
      by_cases e16 : k = 16
      · obtain ⟨σ', a1, a2⟩ := lw_16 (xs := xs) hL hi hn h3
        rw [if_pos e16, a2]; exact go σ' a1
      rw [if_neg e16]
      by_cases e17 : k = 17
      · obtain ⟨σ', a1, a2⟩ := lw_17 (xs := xs) hL hi hn h3
        rw [if_pos e17, a2]; exact go σ' a1
      rw [if_neg e17]
      by_cases e18 : k = 18
      · obtain ⟨σ', a1, a2⟩ := lw_18 (xs := xs) hL hi hn h3
        rw [if_pos e18, a2]; exact go σ' a1
      rw [if_neg e18]
      by_cases e19 : k = 19
      · obtain ⟨σ', a1, a2⟩ := lw_19 (xs := xs) hL hi hn h3
        rw [if_pos e19, a2]; exact go σ' a1
      rw [if_neg e19]
      by_cases e20 : k = 20
      · obtain ⟨σ', a1, a2⟩ := lw_20 (xs := xs) hL hi hn h3
        rw [if_pos e20, a2]; exact go σ' a1
      rw [if_neg e20]
      by_cases e21 : k = 21
      · obtain ⟨σ', a1, a2⟩ := lw_21 (xs := xs) hL hi hn h3
        rw [if_pos e21, a2]; exact go σ' a1
      rw [if_neg e21]
      by_cases e22 : k = 22
      · obtain ⟨σ', a1, a2⟩ := lw_22 (xs := xs) hL hi hn h3
        rw [if_pos e22, a2]; exact go σ' a1
      rw [if_neg e22]
      by_cases e23 : k = 23
      · obtain ⟨σ', a1, a2⟩ := lw_23 (xs := xs) hL hi hn h3
        rw [if_pos e23, a2]; exact go σ' a1
      rw [if_neg e23]
      by_cases e24 : k = 24
      · obtain ⟨σ', a1, a2⟩ := lw_24 (xs := xs) hL hi hn h3
        rw [if_pos e24, a2]; exact go σ' a1
      rw [if_neg e24]
      by_cases e25 : k = 25
      · obtain ⟨σ', a1, a2⟩ := lw_25 (xs := xs) hL hi hn h3
        rw [if_pos e25, a2]; exact go σ' a1
      rw [if_neg e25]
      by_cases e26 : k = 26
      · obtain ⟨σ', a1, a2⟩ := lw_26 (xs := xs) hL hi hn h3
        rw [if_pos e26, a2]; exact go σ' a1
      rw [if_neg e26]
      by_cases e27 : k = 27
      · obtain ⟨σ', a1, a2⟩ := lw_27 (xs := xs) hL hi hn h3
        rw [if_pos e27, a2]; exact go σ' a1
      rw [if_neg e27]
      by_cases e28 : k = 28
      · obtain ⟨σ', a1, a2⟩ := lw_28 (xs := xs) hL hi hn h3
        rw [if_pos e28, a2]; exact go σ' a1
      rw [if_neg e28]
      by_cases e29 : k = 29
      · obtain ⟨σ', a1, a2⟩ := lw_29 (xs := xs) hL hi hn h3
        rw [if_pos e29, a2]; exact go σ' a1
      rw [if_neg e29]
      by_cases e30 : k = 30
      · obtain ⟨σ', a1, a2⟩ := lw_30 (xs := xs) hL hi hn h3
        rw [if_pos e30, a2]; exact go σ' a1
      rw [if_neg e30]
      by_cases e31 : k = 31
      · obtain ⟨σ', a1, a2⟩ := lw_31 (xs := xs) hL hi hn h3
        rw [if_pos e31, a2]; exact go σ' a1
      rw [if_neg e31]
      by_cases e32 : k = 32
      · obtain ⟨σ', a1, a2⟩ := lw_32 (xs := xs) hL hi hn h3
        rw [if_pos e32, a2]; exact go σ' a1
      rw [if_neg e32]
      by_cases e33 : k = 33
      · obtain ⟨σ', a1, a2⟩ := lw_33 (xs := xs) hL hi hn h3
        rw [if_pos e33, a2]; exact go σ' a1
      rw [if_neg e33]
      by_cases e34 : k = 34
      · obtain ⟨σ', a1, a2⟩ := lw_34 (xs := xs) hL hi hn h3
        rw [if_pos e34, a2]; exact go σ' a1
      rw [if_neg e34]
      by_cases e35 : k = 35
      · obtain ⟨σ', a1, a2⟩ := lw_35 (xs := xs) hL hi hn h3
        rw [if_pos e35, a2]; exact go σ' a1
      rw [if_neg e35]
      by_cases e36 : k = 36
      · obtain ⟨σ', a1, a2⟩ := lw_36 (xs := xs) hL hi hn h3
        rw [if_pos e36, a2]; exact go σ' a1
      rw [if_neg e36]
      by_cases e37 : k = 37
      · obtain ⟨σ', a1, a2⟩ := lw_37 (xs := xs) hL hi hn h3
        rw [if_pos e37, a2]; exact go σ' a1
      rw [if_neg e37]
      by_cases e38 : k = 38
      · obtain ⟨σ', a1, a2⟩ := lw_38 (xs := xs) hL hi hn h3
        rw [if_pos e38, a2]; exact go σ' a1
      rw [if_neg e38]
      by_cases e39 : k = 39
      · obtain ⟨σ', a1, a2⟩ := lw_39 (xs := xs) hL hi hn h3
        rw [if_pos e39, a2]; exact go σ' a1
      rw [if_neg e39]
      by_cases e40 : k = 40
      · obtain ⟨σ', a1, a2⟩ := lw_40 (xs := xs) hL hi hn h3
        rw [if_pos e40, a2]; exact go σ' a1
      rw [if_neg e40]
      by_cases e41 : k = 41
      · obtain ⟨σ', a1, a2⟩ := lw_41 (xs := xs) hL hi hn h3
        rw [if_pos e41, a2]; exact go σ' a1
      rw [if_neg e41]
      by_cases e42 : k = 42
      · obtain ⟨σ', a1, a2⟩ := lw_42 (xs := xs) hL hi hn h3
        rw [if_pos e42, a2]; exact go σ' a1
      rw [if_neg e42]
      by_cases e43 : k = 43
      · obtain ⟨σ', a1, a2⟩ := lw_43 (xs := xs) hL hi hn h3
        rw [if_pos e43, a2]; exact go σ' a1
      rw [if_neg e43]
      by_cases e44 : k = 44
      · obtain ⟨σ', a1, a2⟩ := lw_44 (xs := xs) hL hi hn h3
        rw [if_pos e44, a2]; exact go σ' a1
      rw [if_neg e44]
      by_cases e45 : k = 45
      · obtain ⟨σ', a1, a2⟩ := lw_45 (xs := xs) hL hi hn h3
        rw [if_pos e45, a2]; exact go σ' a1
      rw [if_neg e45]
      by_cases e46 : k = 46
      · obtain ⟨σ', a1, a2⟩ := lw_46 (xs := xs) hL hi hn h3
        rw [if_pos e46, a2]; exact go σ' a1
      rw [if_neg e46]
      by_cases e47 : k = 47
      · obtain ⟨σ', a1, a2⟩ := lw_47 (xs := xs) hL hi hn h3
        rw [if_pos e47, a2]; exact go σ' a1
      rw [if_neg e47]
      by_cases e48 : k = 48
      · obtain ⟨σ', a1, a2⟩ := lw_48 (xs := xs) hL hi hn h3
        rw [if_pos e48, a2]; exact go σ' a1
      rw [if_neg e48]
      by_cases e49 : k = 49
      · obtain ⟨σ', a1, a2⟩ := lw_49 (xs := xs) hL hi hn h3
        rw [if_pos e49, a2]; exact go σ' a1
      rw [if_neg e49]
      by_cases e50 : k = 50
      · obtain ⟨σ', a1, a2⟩ := lw_50 (xs := xs) hL hi hn h3
        rw [if_pos e50, a2]; exact go σ' a1
      rw [if_neg e50]
      by_cases e51 : k = 51
      · obtain ⟨σ', a1, a2⟩ := lw_51 (xs := xs) hL hi hn h3
        rw [if_pos e51, a2]; exact go σ' a1
      rw [if_neg e51]
      by_cases e52 : k = 52
      · obtain ⟨σ', a1, a2⟩ := lw_52 (xs := xs) hL hi hn h3
        rw [if_pos e52, a2]; exact go σ' a1
      rw [if_neg e52]
      exact go σ (inv_up h3)
theorem inv_0 : Inv 0 os0 := by
  refine ⟨⟨Or.inl ⟨rfl, rfl⟩, ⟨0, by omega, rfl, rfl, fun j hj => by omega⟩, rfl, Or.inr ⟨⟨rfl, rfl, rfl, rfl, rfl, rfl⟩, rfl, rfl, rfl, rfl, rfl, rfl, rfl, rfl, rfl, rfl⟩⟩, ⟨0, by omega, rfl, fun j hj => ⟨0, by omega, rfl⟩⟩, ⟨rfl, fun q => absurd q (by decide)⟩, Nat.le_of_eq rfl⟩
theorem pure_all : oPure := fun xs L hL => law_all xs hL oF 0 os0 (by omega) (by decide) inv_0
theorem i_vc : Claimed_1_1 ∧ Claimed_1_2 := vc_of pure_all
