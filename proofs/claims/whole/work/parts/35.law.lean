def fL_law_b1863 (xs : Nat → Int32) (L : Nat) (rc23 : Int32 → OM → Option (Int32 × OM)) (l4 : Int32) (σ : OM) : Option (Int32 × OM) :=
  obi (fX9_trouble σ) (fun r1 σ2 =>
  ogd (decide (mR σ2 96 0 = mR σ 96 0)) (
  obi (fX10_trouble σ2) (fun r5 σ6 =>
  ogd (decide (mR σ6 96 0 = mR σ2 96 0)) (
  if r1 = r5 then (
   rc23 (l4 + 6) σ6)
  else (some ((0 : Int32), σ6))))))
set_option maxRecDepth 100000 in
set_option maxHeartbeats 4000000 in
theorem rL_law_b1863 {K : OK} (hc : kcc K = code) (ho : kow K = RL) (hL : knL K = 7) (hN : 1300 ≤ kN K) {xs : Nat → Int32} {L : Nat} (hX0 : oLx K L xs) (hlx : oLz K) {σ0 : OM} {rc23 : Int32 → OM → Option (Int32 × OM)} (hrc23 : ∀ (l4 : Int32) (σ : OM), rc23 l4 σ = some ((1 : Int32), σ0) → Go K 23 [.ref 100, .ref 0, .ref 81, .ref 94, .int l4, .null, .null] [] σ) {l4 : Int32} {σ : OM} (h : fL_law_b1863 xs L rc23 l4 σ = some ((1 : Int32), σ0)) : Go K 1863 [.ref 100, .ref 0, .ref 81, .ref 94, .int l4, .null, .null] [] σ := by
  unfold fL_law_b1863 at h
  refine go_aload_n hc dL_law_1863 rfl rfl ?_
  obtain ⟨r1, σ2, hf3, h⟩ := obi_some h
  obtain ⟨hg4, h⟩ := ogd_some h
  refine go_callVi hc ho cmX9_trouble mlL_242 dL_law_1864 ok_0 (As := []) (rest := []) (rX9_trouble (N := 0) hf3 (Nat.le_refl _)) rfl (Nat.le_trans (Nat.le_of_ble_eq_true rfl) hN) rfl (Nat.le_of_ble_eq_true rfl) (Or.inr (of_decide_eq_true hg4)) ?_
  refine go_aload_n hc dL_law_1867 rfl rfl ?_
  obtain ⟨r5, σ6, hf7, h⟩ := obi_some h
  obtain ⟨hg8, h⟩ := ogd_some h
  refine go_callVi hc ho cmX10_trouble mlL_245 dL_law_1868 ok_81 (As := []) (rest := [.int r1]) (rX10_trouble (N := 0) hf7 (Nat.le_refl _)) rfl (Nat.le_trans (Nat.le_of_ble_eq_true rfl) hN) rfl (Nat.le_of_ble_eq_true rfl) (Or.inr (of_decide_eq_true hg8)) ?_
  refine go_icmp_eq (tgt := 1876) hc dL_law_1871 rfl (fun hh => ?_) (fun hh => ?_)
  · rw [if_pos hh] at h
    refine go_iinc hc (lv1 := [.ref 100, .ref 0, .ref 81, .ref 94, .int (l4 + 6), .null, .null]) dL_law_1876 rfl ci_6 hL (by decide) (fun _ _ e => by cases e; rfl) rfl ?_
    refine go_goto (tgt := 23) hc dL_law_1879 rfl ?_
    exact hrc23 (l4 + 6) _ h
  · rw [if_neg hh] at h
    refine go_iconst hc dL_law_1874 ci_0 ?_
    exact (ol01 h).elim
def fL_law_b1838 (xs : Nat → Int32) (L : Nat) (rc23 : Int32 → OM → Option (Int32 × OM)) (l4 : Int32) (σ : OM) : Option (Int32 × OM) :=
  ogd (oin (l4 + (1 : Int32)) L) (
  obi (fX9_size (xs (l4 + (1 : Int32)).toNatClampNeg) σ) (fun r2 σ3 =>
  ogd (decide (mR σ3 96 0 = mR σ 96 0)) (
  ogd (oin (l4 + (1 : Int32)) L) (
  obi (fX10_size (xs (l4 + (1 : Int32)).toNatClampNeg) σ3) (fun r7 σ8 =>
  ogd (decide (mR σ8 96 0 = mR σ3 96 0)) (
  if r2 = r7 then (
   rc23 (l4 + 6) σ8)
  else (some ((0 : Int32), σ8))))))))
set_option maxRecDepth 100000 in
set_option maxHeartbeats 4000000 in
theorem rL_law_b1838 {K : OK} (hc : kcc K = code) (ho : kow K = RL) (hL : knL K = 7) (hN : 1300 ≤ kN K) {xs : Nat → Int32} {L : Nat} (hX0 : oLx K L xs) (hlx : oLz K) {σ0 : OM} {rc23 : Int32 → OM → Option (Int32 × OM)} (hrc23 : ∀ (l4 : Int32) (σ : OM), rc23 l4 σ = some ((1 : Int32), σ0) → Go K 23 [.ref 100, .ref 0, .ref 81, .ref 94, .int l4, .null, .null] [] σ) {l4 : Int32} {σ : OM} (h : fL_law_b1838 xs L rc23 l4 σ = some ((1 : Int32), σ0)) : Go K 1838 [.ref 100, .ref 0, .ref 81, .ref 94, .int l4, .null, .null] [] σ := by
  unfold fL_law_b1838 at h
  refine go_aload_n hc dL_law_1838 rfl rfl ?_
  refine go_aload_n hc dL_law_1839 rfl rfl ?_
  refine go_iload hc dL_law_1840 rfl ?_
  refine go_iconst hc dL_law_1842 ci_1 ?_
  refine go_iadd hc dL_law_1843 ?_
  obtain ⟨hg1, h⟩ := ogd_some h
  refine go_scr hc hX0 hg1 dL_law_1844 ?_
  obtain ⟨r2, σ3, hf4, h⟩ := obi_some h
  obtain ⟨hg5, h⟩ := ogd_some h
  refine go_callVi hc ho cmX9_size mlL_238 dL_law_1845 ok_0 (As := [.int (xs (l4 + (1 : Int32)).toNatClampNeg)]) (rest := []) (rX9_size (N := 0) hf4 (Nat.le_refl _)) rfl (Nat.le_trans (Nat.le_of_ble_eq_true rfl) hN) rfl (Nat.le_of_ble_eq_true rfl) (Or.inr (of_decide_eq_true hg5)) ?_
  refine go_aload_n hc dL_law_1848 rfl rfl ?_
  refine go_aload_n hc dL_law_1849 rfl rfl ?_
  refine go_iload hc dL_law_1850 rfl ?_
  refine go_iconst hc dL_law_1852 ci_1 ?_
  refine go_iadd hc dL_law_1853 ?_
  obtain ⟨hg6, h⟩ := ogd_some h
  refine go_scr hc hX0 hg6 dL_law_1854 ?_
  obtain ⟨r7, σ8, hf9, h⟩ := obi_some h
  obtain ⟨hg10, h⟩ := ogd_some h
  refine go_callVi hc ho cmX10_size mlL_241 dL_law_1855 ok_81 (As := [.int (xs (l4 + (1 : Int32)).toNatClampNeg)]) (rest := [.int r2]) (rX10_size (N := 2) hf9 (Nat.le_refl _)) rfl (Nat.le_trans (Nat.le_of_ble_eq_true rfl) hN) rfl (Nat.le_of_ble_eq_true rfl) (Or.inr (of_decide_eq_true hg10)) ?_
  refine go_icmp_eq (tgt := 1876) hc dL_law_1858 rfl (fun hh => ?_) (fun hh => ?_)
  · rw [if_pos hh] at h
    refine go_iinc hc (lv1 := [.ref 100, .ref 0, .ref 81, .ref 94, .int (l4 + 6), .null, .null]) dL_law_1876 rfl ci_6 hL (by decide) (fun _ _ e => by cases e; rfl) rfl ?_
    refine go_goto (tgt := 23) hc dL_law_1879 rfl ?_
    exact hrc23 (l4 + 6) _ h
  · rw [if_neg hh] at h
    refine go_iconst hc dL_law_1861 ci_0 ?_
    exact (ol01 h).elim
def fL_law_b1782 (xs : Nat → Int32) (L : Nat) (rc23 : Int32 → OM → Option (Int32 × OM)) (l4 : Int32) (σ : OM) : Option (Int32 × OM) :=
  ogd (oin (l4 + (1 : Int32)) L) (
  obi (fL_led (xs (l4 + (1 : Int32)).toNatClampNeg) σ) (fun r2 σ3 =>
  ogd (oin (l4 + (1 : Int32)) L) (
  obi (fX10_led (xs (l4 + (1 : Int32)).toNatClampNeg) σ3) (fun r6 σ7 =>
  ogd (decide (mR σ7 96 0 = mR σ3 96 0)) (
  obi (fX10_thrown σ7) (fun r10 σ11 =>
  ogd (decide (mR σ11 96 0 = mR σ7 96 0)) (
  if r10 = r2 then (
   if r2 = 0 then (
    if (lg_cmp (mL σ11 94 0) r6.toInt64) = 0 then (
     rc23 (l4 + 6) σ11)
    else (some ((0 : Int32), σ11)))
   else (rc23 (l4 + 6) σ11))
  else (some ((0 : Int32), σ11)))))))))
set_option maxRecDepth 100000 in
set_option maxHeartbeats 4000000 in
theorem rL_law_b1782 {K : OK} (hc : kcc K = code) (ho : kow K = RL) (hL : knL K = 7) (hN : 1300 ≤ kN K) {xs : Nat → Int32} {L : Nat} (hX0 : oLx K L xs) (hlx : oLz K) {σ0 : OM} {rc23 : Int32 → OM → Option (Int32 × OM)} (hrc23 : ∀ (l4 : Int32) (σ : OM), rc23 l4 σ = some ((1 : Int32), σ0) → Go K 23 [.ref 100, .ref 0, .ref 81, .ref 94, .int l4, .null, .null] [] σ) {l4 : Int32} {σ : OM} (h : fL_law_b1782 xs L rc23 l4 σ = some ((1 : Int32), σ0)) : Go K 1782 [.ref 100, .ref 0, .ref 81, .ref 94, .int l4, .null, .null] [] σ := by
  unfold fL_law_b1782 at h
  refine go_aload_n hc dL_law_1782 rfl rfl ?_
  refine go_aload_n hc dL_law_1783 rfl rfl ?_
  refine go_iload hc dL_law_1784 rfl ?_
  refine go_iconst hc dL_law_1786 ci_1 ?_
  refine go_iadd hc dL_law_1787 ?_
  obtain ⟨hg1, h⟩ := ogd_some h
  refine go_scr hc hX0 hg1 dL_law_1788 ?_
  refine go_aload_n hc dL_law_1789 rfl rfl ?_
  obtain ⟨r2, σ3, hf4, h⟩ := obi_some h
  refine go_lled hc ho hlx dL_law_1790 hf4 rfl (Nat.le_of_ble_eq_true rfl) ?_
  refine go_istore hc (lv1 := [.ref 100, .ref 0, .ref 81, .ref 94, .int l4, .int r2, .null]) dL_law_1793 hL (by decide) (fun _ _ e => by cases e; rfl) rfl ?_
  refine go_aload_n hc dL_law_1795 rfl rfl ?_
  refine go_aload_n hc dL_law_1796 rfl rfl ?_
  refine go_iload hc dL_law_1797 rfl ?_
  refine go_iconst hc dL_law_1799 ci_1 ?_
  refine go_iadd hc dL_law_1800 ?_
  obtain ⟨hg5, h⟩ := ogd_some h
  refine go_scr hc hX0 hg5 dL_law_1801 ?_
  obtain ⟨r6, σ7, hf8, h⟩ := obi_some h
  obtain ⟨hg9, h⟩ := ogd_some h
  refine go_callVi hc ho cmX10_led mlL_234 dL_law_1802 ok_81 (As := [.int (xs (l4 + (1 : Int32)).toNatClampNeg)]) (rest := []) (rX10_led (N := 6) hf8 (Nat.le_refl _)) rfl (Nat.le_trans (Nat.le_of_ble_eq_true rfl) hN) rfl (Nat.le_of_ble_eq_true rfl) (Or.inr (of_decide_eq_true hg9)) ?_
  refine go_istore hc (lv1 := [.ref 100, .ref 0, .ref 81, .ref 94, .int l4, .int r2, .int r6]) dL_law_1805 hL (by decide) (fun _ _ e => by cases e; rfl) rfl ?_
  refine go_aload_n hc dL_law_1807 rfl rfl ?_
  obtain ⟨r10, σ11, hf12, h⟩ := obi_some h
  obtain ⟨hg13, h⟩ := ogd_some h
  refine go_callVi hc ho cmX10_thrown mlL_235 dL_law_1808 ok_81 (As := []) (rest := []) (rX10_thrown (N := 0) hf12 (Nat.le_refl _)) rfl (Nat.le_trans (Nat.le_of_ble_eq_true rfl) hN) rfl (Nat.le_of_ble_eq_true rfl) (Or.inr (of_decide_eq_true hg13)) ?_
  refine go_iload hc dL_law_1811 rfl ?_
  refine go_icmp_eq (tgt := 1818) hc dL_law_1813 rfl (fun hh => ?_) (fun hh => ?_)
  · rw [if_pos hh] at h
    refine go_iload hc dL_law_1818 rfl ?_
    refine go_if_ne (tgt := 1835) hc dL_law_1820 rfl (fun hh => ?_) (fun hh => ?_)
    · rw [if_neg hh] at h
      refine go_goto (tgt := 1876) hc dL_law_1835 rfl ?_
      refine go_iinc hc (lv1 := [.ref 100, .ref 0, .ref 81, .ref 94, .int (l4 + 6), .int r2, .int r6]) dL_law_1876 rfl ci_6 hL (by decide) (fun _ _ e => by cases e; rfl) rfl ?_
      refine go_goto (tgt := 23) hc dL_law_1879 rfl ?_
      refine go_mask [true, true, true, true, true, false, false] (lv1 := [.ref 100, .ref 0, .ref 81, .ref 94, .int (l4 + 6), .null, .null]) rfl ?_
      exact hrc23 (l4 + 6) _ h
    · rw [if_pos hh] at h
      refine go_aload_n hc dL_law_1823 rfl rfl ?_
      refine go_iconst hc dL_law_1824 ci_0 ?_
      refine go_lald hc dL_law_1825 ok_94 ol_94 (by decide +kernel) cn_0 ?_
      refine go_iload hc dL_law_1826 rfl ?_
      refine go_i2l hc dL_law_1828 ?_
      refine go_lcmp hc dL_law_1829 ?_
      refine go_if_eq (tgt := 1835) hc dL_law_1830 rfl (fun hh => ?_) (fun hh => ?_)
      · rw [if_pos hh] at h
        refine go_goto (tgt := 1876) hc dL_law_1835 rfl ?_
        refine go_iinc hc (lv1 := [.ref 100, .ref 0, .ref 81, .ref 94, .int (l4 + 6), .int r2, .int r6]) dL_law_1876 rfl ci_6 hL (by decide) (fun _ _ e => by cases e; rfl) rfl ?_
        refine go_goto (tgt := 23) hc dL_law_1879 rfl ?_
        refine go_mask [true, true, true, true, true, false, false] (lv1 := [.ref 100, .ref 0, .ref 81, .ref 94, .int (l4 + 6), .null, .null]) rfl ?_
        exact hrc23 (l4 + 6) _ h
      · rw [if_neg hh] at h
        refine go_iconst hc dL_law_1833 ci_0 ?_
        exact (ol01 h).elim
  · rw [if_neg hh] at h
    refine go_iconst hc dL_law_1816 ci_0 ?_
    exact (ol01 h).elim
def fL_law_b1757 (xs : Nat → Int32) (L : Nat) (rc23 : Int32 → OM → Option (Int32 × OM)) (l4 : Int32) (σ : OM) : Option (Int32 × OM) :=
  ogd (oin (l4 + (1 : Int32)) L) (
  obi (fX9_back (xs (l4 + (1 : Int32)).toNatClampNeg) σ) (fun r2 σ3 =>
  ogd (decide (mR σ3 96 0 = mR σ 96 0)) (
  ogd (oin (l4 + (1 : Int32)) L) (
  obi (fX10_back (xs (l4 + (1 : Int32)).toNatClampNeg) σ3) (fun r7 σ8 =>
  ogd (decide (mR σ8 96 0 = mR σ3 96 0)) (
  if r2 = r7 then (
   rc23 (l4 + 6) σ8)
  else (some ((0 : Int32), σ8))))))))
set_option maxRecDepth 100000 in
set_option maxHeartbeats 4000000 in
theorem rL_law_b1757 {K : OK} (hc : kcc K = code) (ho : kow K = RL) (hL : knL K = 7) (hN : 1300 ≤ kN K) {xs : Nat → Int32} {L : Nat} (hX0 : oLx K L xs) (hlx : oLz K) {σ0 : OM} {rc23 : Int32 → OM → Option (Int32 × OM)} (hrc23 : ∀ (l4 : Int32) (σ : OM), rc23 l4 σ = some ((1 : Int32), σ0) → Go K 23 [.ref 100, .ref 0, .ref 81, .ref 94, .int l4, .null, .null] [] σ) {l4 : Int32} {σ : OM} (h : fL_law_b1757 xs L rc23 l4 σ = some ((1 : Int32), σ0)) : Go K 1757 [.ref 100, .ref 0, .ref 81, .ref 94, .int l4, .null, .null] [] σ := by
  unfold fL_law_b1757 at h
  refine go_aload_n hc dL_law_1757 rfl rfl ?_
  refine go_aload_n hc dL_law_1758 rfl rfl ?_
  refine go_iload hc dL_law_1759 rfl ?_
  refine go_iconst hc dL_law_1761 ci_1 ?_
  refine go_iadd hc dL_law_1762 ?_
  obtain ⟨hg1, h⟩ := ogd_some h
  refine go_scr hc hX0 hg1 dL_law_1763 ?_
  obtain ⟨r2, σ3, hf4, h⟩ := obi_some h
  obtain ⟨hg5, h⟩ := ogd_some h
  refine go_callVi hc ho cmX9_back mlL_224 dL_law_1764 ok_0 (As := [.int (xs (l4 + (1 : Int32)).toNatClampNeg)]) (rest := []) (rX9_back (N := 4) hf4 (Nat.le_refl _)) rfl (Nat.le_trans (Nat.le_of_ble_eq_true rfl) hN) rfl (Nat.le_of_ble_eq_true rfl) (Or.inr (of_decide_eq_true hg5)) ?_
  refine go_aload_n hc dL_law_1767 rfl rfl ?_
  refine go_aload_n hc dL_law_1768 rfl rfl ?_
  refine go_iload hc dL_law_1769 rfl ?_
  refine go_iconst hc dL_law_1771 ci_1 ?_
  refine go_iadd hc dL_law_1772 ?_
  obtain ⟨hg6, h⟩ := ogd_some h
  refine go_scr hc hX0 hg6 dL_law_1773 ?_
  obtain ⟨r7, σ8, hf9, h⟩ := obi_some h
  obtain ⟨hg10, h⟩ := ogd_some h
  refine go_callVi hc ho cmX10_back mlL_228 dL_law_1774 ok_81 (As := [.int (xs (l4 + (1 : Int32)).toNatClampNeg)]) (rest := [.int r2]) (rX10_back (N := 1) hf9 (Nat.le_refl _)) rfl (Nat.le_trans (Nat.le_of_ble_eq_true rfl) hN) rfl (Nat.le_of_ble_eq_true rfl) (Or.inr (of_decide_eq_true hg10)) ?_
  refine go_icmp_eq (tgt := 1876) hc dL_law_1777 rfl (fun hh => ?_) (fun hh => ?_)
  · rw [if_pos hh] at h
    refine go_iinc hc (lv1 := [.ref 100, .ref 0, .ref 81, .ref 94, .int (l4 + 6), .null, .null]) dL_law_1876 rfl ci_6 hL (by decide) (fun _ _ e => by cases e; rfl) rfl ?_
    refine go_goto (tgt := 23) hc dL_law_1879 rfl ?_
    exact hrc23 (l4 + 6) _ h
  · rw [if_neg hh] at h
    refine go_iconst hc dL_law_1780 ci_0 ?_
    exact (ol01 h).elim
def fL_law_b1744 (xs : Nat → Int32) (L : Nat) (rc23 : Int32 → OM → Option (Int32 × OM)) (l4 : Int32) (σ : OM) : Option (Int32 × OM) :=
  obi (fX9_image σ) (fun r1 σ2 =>
  ogd (decide (mR σ2 96 0 = mR σ 96 0)) (
  obi (fX10_image σ2) (fun r5 σ6 =>
  ogd (decide (mR σ6 96 0 = mR σ2 96 0)) (
  if r1 = r5 then (
   rc23 (l4 + 6) σ6)
  else (some ((0 : Int32), σ6))))))
set_option maxRecDepth 100000 in
set_option maxHeartbeats 4000000 in
theorem rL_law_b1744 {K : OK} (hc : kcc K = code) (ho : kow K = RL) (hL : knL K = 7) (hN : 1300 ≤ kN K) {xs : Nat → Int32} {L : Nat} (hX0 : oLx K L xs) (hlx : oLz K) {σ0 : OM} {rc23 : Int32 → OM → Option (Int32 × OM)} (hrc23 : ∀ (l4 : Int32) (σ : OM), rc23 l4 σ = some ((1 : Int32), σ0) → Go K 23 [.ref 100, .ref 0, .ref 81, .ref 94, .int l4, .null, .null] [] σ) {l4 : Int32} {σ : OM} (h : fL_law_b1744 xs L rc23 l4 σ = some ((1 : Int32), σ0)) : Go K 1744 [.ref 100, .ref 0, .ref 81, .ref 94, .int l4, .null, .null] [] σ := by
  unfold fL_law_b1744 at h
  refine go_aload_n hc dL_law_1744 rfl rfl ?_
  obtain ⟨r1, σ2, hf3, h⟩ := obi_some h
  obtain ⟨hg4, h⟩ := ogd_some h
  refine go_callVi hc ho cmX9_image mlL_220 dL_law_1745 ok_0 (As := []) (rest := []) (rX9_image (N := 1) hf3 (Nat.le_refl _)) rfl (Nat.le_trans (Nat.le_of_ble_eq_true rfl) hN) rfl (Nat.le_of_ble_eq_true rfl) (Or.inr (of_decide_eq_true hg4)) ?_
  refine go_aload_n hc dL_law_1748 rfl rfl ?_
  obtain ⟨r5, σ6, hf7, h⟩ := obi_some h
  obtain ⟨hg8, h⟩ := ogd_some h
  refine go_callVi hc ho cmX10_image mlL_223 dL_law_1749 ok_81 (As := []) (rest := [.int r1]) (rX10_image (N := 1) hf7 (Nat.le_refl _)) rfl (Nat.le_trans (Nat.le_of_ble_eq_true rfl) hN) rfl (Nat.le_of_ble_eq_true rfl) (Or.inr (of_decide_eq_true hg8)) ?_
  refine go_icmp_eq (tgt := 1876) hc dL_law_1752 rfl (fun hh => ?_) (fun hh => ?_)
  · rw [if_pos hh] at h
    refine go_iinc hc (lv1 := [.ref 100, .ref 0, .ref 81, .ref 94, .int (l4 + 6), .null, .null]) dL_law_1876 rfl ci_6 hL (by decide) (fun _ _ e => by cases e; rfl) rfl ?_
    refine go_goto (tgt := 23) hc dL_law_1879 rfl ?_
    exact hrc23 (l4 + 6) _ h
  · rw [if_neg hh] at h
    refine go_iconst hc dL_law_1755 ci_0 ?_
    exact (ol01 h).elim
def fL_law_b1731 (xs : Nat → Int32) (L : Nat) (rc23 : Int32 → OM → Option (Int32 × OM)) (l4 : Int32) (σ : OM) : Option (Int32 × OM) :=
  obi (fX9_undo σ) (fun r1 σ2 =>
  ogd (decide (mR σ2 96 0 = mR σ 96 0)) (
  obi (fX10_undo σ2) (fun r5 σ6 =>
  ogd (decide (mR σ6 96 0 = mR σ2 96 0)) (
  if r1 = r5 then (
   rc23 (l4 + 6) σ6)
  else (some ((0 : Int32), σ6))))))
set_option maxRecDepth 100000 in
set_option maxHeartbeats 4000000 in
theorem rL_law_b1731 {K : OK} (hc : kcc K = code) (ho : kow K = RL) (hL : knL K = 7) (hN : 1300 ≤ kN K) {xs : Nat → Int32} {L : Nat} (hX0 : oLx K L xs) (hlx : oLz K) {σ0 : OM} {rc23 : Int32 → OM → Option (Int32 × OM)} (hrc23 : ∀ (l4 : Int32) (σ : OM), rc23 l4 σ = some ((1 : Int32), σ0) → Go K 23 [.ref 100, .ref 0, .ref 81, .ref 94, .int l4, .null, .null] [] σ) {l4 : Int32} {σ : OM} (h : fL_law_b1731 xs L rc23 l4 σ = some ((1 : Int32), σ0)) : Go K 1731 [.ref 100, .ref 0, .ref 81, .ref 94, .int l4, .null, .null] [] σ := by
  unfold fL_law_b1731 at h
  refine go_aload_n hc dL_law_1731 rfl rfl ?_
  obtain ⟨r1, σ2, hf3, h⟩ := obi_some h
  obtain ⟨hg4, h⟩ := ogd_some h
  refine go_callVi hc ho cmX9_undo mlL_215 dL_law_1732 ok_0 (As := []) (rest := []) (rX9_undo (N := 4) hf3 (Nat.le_refl _)) rfl (Nat.le_trans (Nat.le_of_ble_eq_true rfl) hN) rfl (Nat.le_of_ble_eq_true rfl) (Or.inr (of_decide_eq_true hg4)) ?_
  refine go_aload_n hc dL_law_1735 rfl rfl ?_
  obtain ⟨r5, σ6, hf7, h⟩ := obi_some h
  obtain ⟨hg8, h⟩ := ogd_some h
  refine go_callVi hc ho cmX10_undo mlL_219 dL_law_1736 ok_81 (As := []) (rest := [.int r1]) (rX10_undo (N := 1) hf7 (Nat.le_refl _)) rfl (Nat.le_trans (Nat.le_of_ble_eq_true rfl) hN) rfl (Nat.le_of_ble_eq_true rfl) (Or.inr (of_decide_eq_true hg8)) ?_
  refine go_icmp_eq (tgt := 1876) hc dL_law_1739 rfl (fun hh => ?_) (fun hh => ?_)
  · rw [if_pos hh] at h
    refine go_iinc hc (lv1 := [.ref 100, .ref 0, .ref 81, .ref 94, .int (l4 + 6), .null, .null]) dL_law_1876 rfl ci_6 hL (by decide) (fun _ _ e => by cases e; rfl) rfl ?_
    refine go_goto (tgt := 23) hc dL_law_1879 rfl ?_
    exact hrc23 (l4 + 6) _ h
  · rw [if_neg hh] at h
    refine go_iconst hc dL_law_1742 ci_0 ?_
    exact (ol01 h).elim
def fL_law_b1706 (xs : Nat → Int32) (L : Nat) (rc23 : Int32 → OM → Option (Int32 × OM)) (l4 : Int32) (σ : OM) : Option (Int32 × OM) :=
  ogd (oin (l4 + (1 : Int32)) L) (
  obi (fX9_years (xs (l4 + (1 : Int32)).toNatClampNeg) σ) (fun r2 σ3 =>
  ogd (decide (mR σ3 96 0 = mR σ 96 0)) (
  ogd (oin (l4 + (1 : Int32)) L) (
  obi (fX10_years (xs (l4 + (1 : Int32)).toNatClampNeg) σ3) (fun r7 σ8 =>
  ogd (decide (mR σ8 96 0 = mR σ3 96 0)) (
  if r2 = r7 then (
   rc23 (l4 + 6) σ8)
  else (some ((0 : Int32), σ8))))))))
set_option maxRecDepth 100000 in
set_option maxHeartbeats 4000000 in
theorem rL_law_b1706 {K : OK} (hc : kcc K = code) (ho : kow K = RL) (hL : knL K = 7) (hN : 1300 ≤ kN K) {xs : Nat → Int32} {L : Nat} (hX0 : oLx K L xs) (hlx : oLz K) {σ0 : OM} {rc23 : Int32 → OM → Option (Int32 × OM)} (hrc23 : ∀ (l4 : Int32) (σ : OM), rc23 l4 σ = some ((1 : Int32), σ0) → Go K 23 [.ref 100, .ref 0, .ref 81, .ref 94, .int l4, .null, .null] [] σ) {l4 : Int32} {σ : OM} (h : fL_law_b1706 xs L rc23 l4 σ = some ((1 : Int32), σ0)) : Go K 1706 [.ref 100, .ref 0, .ref 81, .ref 94, .int l4, .null, .null] [] σ := by
  unfold fL_law_b1706 at h
  refine go_aload_n hc dL_law_1706 rfl rfl ?_
  refine go_aload_n hc dL_law_1707 rfl rfl ?_
  refine go_iload hc dL_law_1708 rfl ?_
  refine go_iconst hc dL_law_1710 ci_1 ?_
  refine go_iadd hc dL_law_1711 ?_
  obtain ⟨hg1, h⟩ := ogd_some h
  refine go_scr hc hX0 hg1 dL_law_1712 ?_
  obtain ⟨r2, σ3, hf4, h⟩ := obi_some h
  obtain ⟨hg5, h⟩ := ogd_some h
  refine go_callVi hc ho cmX9_years mlL_211 dL_law_1713 ok_0 (As := [.int (xs (l4 + (1 : Int32)).toNatClampNeg)]) (rest := []) (rX9_years (N := 2) hf4 (Nat.le_refl _)) rfl (Nat.le_trans (Nat.le_of_ble_eq_true rfl) hN) rfl (Nat.le_of_ble_eq_true rfl) (Or.inr (of_decide_eq_true hg5)) ?_
  refine go_aload_n hc dL_law_1716 rfl rfl ?_
  refine go_aload_n hc dL_law_1717 rfl rfl ?_
  refine go_iload hc dL_law_1718 rfl ?_
  refine go_iconst hc dL_law_1720 ci_1 ?_
  refine go_iadd hc dL_law_1721 ?_
  obtain ⟨hg6, h⟩ := ogd_some h
  refine go_scr hc hX0 hg6 dL_law_1722 ?_
  obtain ⟨r7, σ8, hf9, h⟩ := obi_some h
  obtain ⟨hg10, h⟩ := ogd_some h
  refine go_callVi hc ho cmX10_years mlL_214 dL_law_1723 ok_81 (As := [.int (xs (l4 + (1 : Int32)).toNatClampNeg)]) (rest := [.int r2]) (rX10_years (N := 2) hf9 (Nat.le_refl _)) rfl (Nat.le_trans (Nat.le_of_ble_eq_true rfl) hN) rfl (Nat.le_of_ble_eq_true rfl) (Or.inr (of_decide_eq_true hg10)) ?_
  refine go_icmp_eq (tgt := 1876) hc dL_law_1726 rfl (fun hh => ?_) (fun hh => ?_)
  · rw [if_pos hh] at h
    refine go_iinc hc (lv1 := [.ref 100, .ref 0, .ref 81, .ref 94, .int (l4 + 6), .null, .null]) dL_law_1876 rfl ci_6 hL (by decide) (fun _ _ e => by cases e; rfl) rfl ?_
    refine go_goto (tgt := 23) hc dL_law_1879 rfl ?_
    exact hrc23 (l4 + 6) _ h
  · rw [if_neg hh] at h
    refine go_iconst hc dL_law_1729 ci_0 ?_
    exact (ol01 h).elim
def fL_law_b1669 (xs : Nat → Int32) (L : Nat) (rc23 : Int32 → OM → Option (Int32 × OM)) (l4 : Int32) (σ : OM) : Option (Int32 × OM) :=
  ogd (oin (l4 + (1 : Int32)) L) (
  ogd (oin (l4 + (2 : Int32)) L) (
  obi (fX9_wed (xs (l4 + (1 : Int32)).toNatClampNeg) (xs (l4 + (2 : Int32)).toNatClampNeg) σ) (fun r3 σ4 =>
  ogd (decide (mR σ4 96 0 = mR σ 96 0)) (
  ogd (oin (l4 + (1 : Int32)) L) (
  ogd (oin (l4 + (2 : Int32)) L) (
  obi (fX10_wed (xs (l4 + (1 : Int32)).toNatClampNeg) (xs (l4 + (2 : Int32)).toNatClampNeg) σ4) (fun r9 σ10 =>
  ogd (decide (mR σ10 96 0 = mR σ4 96 0)) (
  if r3 = r9 then (
   rc23 (l4 + 6) σ10)
  else (some ((0 : Int32), σ10))))))))))
set_option maxRecDepth 100000 in
set_option maxHeartbeats 4000000 in
theorem rL_law_b1669 {K : OK} (hc : kcc K = code) (ho : kow K = RL) (hL : knL K = 7) (hN : 1300 ≤ kN K) {xs : Nat → Int32} {L : Nat} (hX0 : oLx K L xs) (hlx : oLz K) {σ0 : OM} {rc23 : Int32 → OM → Option (Int32 × OM)} (hrc23 : ∀ (l4 : Int32) (σ : OM), rc23 l4 σ = some ((1 : Int32), σ0) → Go K 23 [.ref 100, .ref 0, .ref 81, .ref 94, .int l4, .null, .null] [] σ) {l4 : Int32} {σ : OM} (h : fL_law_b1669 xs L rc23 l4 σ = some ((1 : Int32), σ0)) : Go K 1669 [.ref 100, .ref 0, .ref 81, .ref 94, .int l4, .null, .null] [] σ := by
  unfold fL_law_b1669 at h
  refine go_aload_n hc dL_law_1669 rfl rfl ?_
  refine go_aload_n hc dL_law_1670 rfl rfl ?_
  refine go_iload hc dL_law_1671 rfl ?_
  refine go_iconst hc dL_law_1673 ci_1 ?_
  refine go_iadd hc dL_law_1674 ?_
  obtain ⟨hg1, h⟩ := ogd_some h
  refine go_scr hc hX0 hg1 dL_law_1675 ?_
  refine go_aload_n hc dL_law_1676 rfl rfl ?_
  refine go_iload hc dL_law_1677 rfl ?_
  refine go_iconst hc dL_law_1679 ci_2 ?_
  refine go_iadd hc dL_law_1680 ?_
  obtain ⟨hg2, h⟩ := ogd_some h
  refine go_scr hc hX0 hg2 dL_law_1681 ?_
  obtain ⟨r3, σ4, hf5, h⟩ := obi_some h
  obtain ⟨hg6, h⟩ := ogd_some h
  refine go_callVi hc ho cmX9_wed mlL_206 dL_law_1682 ok_0 (As := [.int (xs (l4 + (1 : Int32)).toNatClampNeg), .int (xs (l4 + (2 : Int32)).toNatClampNeg)]) (rest := []) (rX9_wed (N := 3) hf5 (Nat.le_refl _)) rfl (Nat.le_trans (Nat.le_of_ble_eq_true rfl) hN) rfl (Nat.le_of_ble_eq_true rfl) (Or.inr (of_decide_eq_true hg6)) ?_
  refine go_aload_n hc dL_law_1685 rfl rfl ?_
  refine go_aload_n hc dL_law_1686 rfl rfl ?_
  refine go_iload hc dL_law_1687 rfl ?_
  refine go_iconst hc dL_law_1689 ci_1 ?_
  refine go_iadd hc dL_law_1690 ?_
  obtain ⟨hg7, h⟩ := ogd_some h
  refine go_scr hc hX0 hg7 dL_law_1691 ?_
  refine go_aload_n hc dL_law_1692 rfl rfl ?_
  refine go_iload hc dL_law_1693 rfl ?_
  refine go_iconst hc dL_law_1695 ci_2 ?_
  refine go_iadd hc dL_law_1696 ?_
  obtain ⟨hg8, h⟩ := ogd_some h
  refine go_scr hc hX0 hg8 dL_law_1697 ?_
  obtain ⟨r9, σ10, hf11, h⟩ := obi_some h
  obtain ⟨hg12, h⟩ := ogd_some h
  refine go_callVi hc ho cmX10_wed mlL_210 dL_law_1698 ok_81 (As := [.int (xs (l4 + (1 : Int32)).toNatClampNeg), .int (xs (l4 + (2 : Int32)).toNatClampNeg)]) (rest := [.int r3]) (rX10_wed (N := 2) hf11 (Nat.le_refl _)) rfl (Nat.le_trans (Nat.le_of_ble_eq_true rfl) hN) rfl (Nat.le_of_ble_eq_true rfl) (Or.inr (of_decide_eq_true hg12)) ?_
  refine go_icmp_eq (tgt := 1876) hc dL_law_1701 rfl (fun hh => ?_) (fun hh => ?_)
  · rw [if_pos hh] at h
    refine go_iinc hc (lv1 := [.ref 100, .ref 0, .ref 81, .ref 94, .int (l4 + 6), .null, .null]) dL_law_1876 rfl ci_6 hL (by decide) (fun _ _ e => by cases e; rfl) rfl ?_
    refine go_goto (tgt := 23) hc dL_law_1879 rfl ?_
    exact hrc23 (l4 + 6) _ h
  · rw [if_neg hh] at h
    refine go_iconst hc dL_law_1704 ci_0 ?_
    exact (ol01 h).elim
def fL_law_b1632 (xs : Nat → Int32) (L : Nat) (rc23 : Int32 → OM → Option (Int32 × OM)) (l4 : Int32) (σ : OM) : Option (Int32 × OM) :=
  ogd (oin (l4 + (1 : Int32)) L) (
  ogd (oin (l4 + (2 : Int32)) L) (
  obi (fX9_lie (xs (l4 + (1 : Int32)).toNatClampNeg) (xs (l4 + (2 : Int32)).toNatClampNeg) σ) (fun r3 σ4 =>
  ogd (decide (mR σ4 96 0 = mR σ 96 0)) (
  ogd (oin (l4 + (1 : Int32)) L) (
  ogd (oin (l4 + (2 : Int32)) L) (
  obi (fX10_lie (xs (l4 + (1 : Int32)).toNatClampNeg) (xs (l4 + (2 : Int32)).toNatClampNeg) σ4) (fun r9 σ10 =>
  ogd (decide (mR σ10 96 0 = mR σ4 96 0)) (
  if r3 = r9 then (
   rc23 (l4 + 6) σ10)
  else (some ((0 : Int32), σ10))))))))))
set_option maxRecDepth 100000 in
set_option maxHeartbeats 4000000 in
theorem rL_law_b1632 {K : OK} (hc : kcc K = code) (ho : kow K = RL) (hL : knL K = 7) (hN : 1300 ≤ kN K) {xs : Nat → Int32} {L : Nat} (hX0 : oLx K L xs) (hlx : oLz K) {σ0 : OM} {rc23 : Int32 → OM → Option (Int32 × OM)} (hrc23 : ∀ (l4 : Int32) (σ : OM), rc23 l4 σ = some ((1 : Int32), σ0) → Go K 23 [.ref 100, .ref 0, .ref 81, .ref 94, .int l4, .null, .null] [] σ) {l4 : Int32} {σ : OM} (h : fL_law_b1632 xs L rc23 l4 σ = some ((1 : Int32), σ0)) : Go K 1632 [.ref 100, .ref 0, .ref 81, .ref 94, .int l4, .null, .null] [] σ := by
  unfold fL_law_b1632 at h
  refine go_aload_n hc dL_law_1632 rfl rfl ?_
  refine go_aload_n hc dL_law_1633 rfl rfl ?_
  refine go_iload hc dL_law_1634 rfl ?_
  refine go_iconst hc dL_law_1636 ci_1 ?_
  refine go_iadd hc dL_law_1637 ?_
  obtain ⟨hg1, h⟩ := ogd_some h
  refine go_scr hc hX0 hg1 dL_law_1638 ?_
  refine go_aload_n hc dL_law_1639 rfl rfl ?_
  refine go_iload hc dL_law_1640 rfl ?_
  refine go_iconst hc dL_law_1642 ci_2 ?_
  refine go_iadd hc dL_law_1643 ?_
  obtain ⟨hg2, h⟩ := ogd_some h
  refine go_scr hc hX0 hg2 dL_law_1644 ?_
  obtain ⟨r3, σ4, hf5, h⟩ := obi_some h
  obtain ⟨hg6, h⟩ := ogd_some h
  refine go_callVi hc ho cmX9_lie mlL_202 dL_law_1645 ok_0 (As := [.int (xs (l4 + (1 : Int32)).toNatClampNeg), .int (xs (l4 + (2 : Int32)).toNatClampNeg)]) (rest := []) (rX9_lie (N := 5) hf5 (Nat.le_refl _)) rfl (Nat.le_trans (Nat.le_of_ble_eq_true rfl) hN) rfl (Nat.le_of_ble_eq_true rfl) (Or.inr (of_decide_eq_true hg6)) ?_
  refine go_aload_n hc dL_law_1648 rfl rfl ?_
  refine go_aload_n hc dL_law_1649 rfl rfl ?_
  refine go_iload hc dL_law_1650 rfl ?_
  refine go_iconst hc dL_law_1652 ci_1 ?_
  refine go_iadd hc dL_law_1653 ?_
  obtain ⟨hg7, h⟩ := ogd_some h
  refine go_scr hc hX0 hg7 dL_law_1654 ?_
  refine go_aload_n hc dL_law_1655 rfl rfl ?_
  refine go_iload hc dL_law_1656 rfl ?_
  refine go_iconst hc dL_law_1658 ci_2 ?_
  refine go_iadd hc dL_law_1659 ?_
  obtain ⟨hg8, h⟩ := ogd_some h
  refine go_scr hc hX0 hg8 dL_law_1660 ?_
  obtain ⟨r9, σ10, hf11, h⟩ := obi_some h
  obtain ⟨hg12, h⟩ := ogd_some h
  refine go_callVi hc ho cmX10_lie mlL_205 dL_law_1661 ok_81 (As := [.int (xs (l4 + (1 : Int32)).toNatClampNeg), .int (xs (l4 + (2 : Int32)).toNatClampNeg)]) (rest := [.int r3]) (rX10_lie (N := 4) hf11 (Nat.le_refl _)) rfl (Nat.le_trans (Nat.le_of_ble_eq_true rfl) hN) rfl (Nat.le_of_ble_eq_true rfl) (Or.inr (of_decide_eq_true hg12)) ?_
  refine go_icmp_eq (tgt := 1876) hc dL_law_1664 rfl (fun hh => ?_) (fun hh => ?_)
  · rw [if_pos hh] at h
    refine go_iinc hc (lv1 := [.ref 100, .ref 0, .ref 81, .ref 94, .int (l4 + 6), .null, .null]) dL_law_1876 rfl ci_6 hL (by decide) (fun _ _ e => by cases e; rfl) rfl ?_
    refine go_goto (tgt := 23) hc dL_law_1879 rfl ?_
    exact hrc23 (l4 + 6) _ h
  · rw [if_neg hh] at h
    refine go_iconst hc dL_law_1667 ci_0 ?_
    exact (ol01 h).elim
def fL_law_b1595 (xs : Nat → Int32) (L : Nat) (rc23 : Int32 → OM → Option (Int32 × OM)) (l4 : Int32) (σ : OM) : Option (Int32 × OM) :=
  ogd (oin (l4 + (1 : Int32)) L) (
  ogd (oin (l4 + (2 : Int32)) L) (
  obi (fX9_ask (xs (l4 + (1 : Int32)).toNatClampNeg) (xs (l4 + (2 : Int32)).toNatClampNeg) σ) (fun r3 σ4 =>
  ogd (decide (mR σ4 96 0 = mR σ 96 0)) (
  ogd (oin (l4 + (1 : Int32)) L) (
  ogd (oin (l4 + (2 : Int32)) L) (
  obi (fX10_ask (xs (l4 + (1 : Int32)).toNatClampNeg) (xs (l4 + (2 : Int32)).toNatClampNeg) σ4) (fun r9 σ10 =>
  ogd (decide (mR σ10 96 0 = mR σ4 96 0)) (
  if r3 = r9 then (
   rc23 (l4 + 6) σ10)
  else (some ((0 : Int32), σ10))))))))))
set_option maxRecDepth 100000 in
set_option maxHeartbeats 4000000 in
theorem rL_law_b1595 {K : OK} (hc : kcc K = code) (ho : kow K = RL) (hL : knL K = 7) (hN : 1300 ≤ kN K) {xs : Nat → Int32} {L : Nat} (hX0 : oLx K L xs) (hlx : oLz K) {σ0 : OM} {rc23 : Int32 → OM → Option (Int32 × OM)} (hrc23 : ∀ (l4 : Int32) (σ : OM), rc23 l4 σ = some ((1 : Int32), σ0) → Go K 23 [.ref 100, .ref 0, .ref 81, .ref 94, .int l4, .null, .null] [] σ) {l4 : Int32} {σ : OM} (h : fL_law_b1595 xs L rc23 l4 σ = some ((1 : Int32), σ0)) : Go K 1595 [.ref 100, .ref 0, .ref 81, .ref 94, .int l4, .null, .null] [] σ := by
  unfold fL_law_b1595 at h
  refine go_aload_n hc dL_law_1595 rfl rfl ?_
  refine go_aload_n hc dL_law_1596 rfl rfl ?_
  refine go_iload hc dL_law_1597 rfl ?_
  refine go_iconst hc dL_law_1599 ci_1 ?_
  refine go_iadd hc dL_law_1600 ?_
  obtain ⟨hg1, h⟩ := ogd_some h
  refine go_scr hc hX0 hg1 dL_law_1601 ?_
  refine go_aload_n hc dL_law_1602 rfl rfl ?_
  refine go_iload hc dL_law_1603 rfl ?_
  refine go_iconst hc dL_law_1605 ci_2 ?_
  refine go_iadd hc dL_law_1606 ?_
  obtain ⟨hg2, h⟩ := ogd_some h
  refine go_scr hc hX0 hg2 dL_law_1607 ?_
  obtain ⟨r3, σ4, hf5, h⟩ := obi_some h
  obtain ⟨hg6, h⟩ := ogd_some h
  refine go_callVi hc ho cmX9_ask mlL_198 dL_law_1608 ok_0 (As := [.int (xs (l4 + (1 : Int32)).toNatClampNeg), .int (xs (l4 + (2 : Int32)).toNatClampNeg)]) (rest := []) (rX9_ask (N := 5) hf5 (Nat.le_refl _)) rfl (Nat.le_trans (Nat.le_of_ble_eq_true rfl) hN) rfl (Nat.le_of_ble_eq_true rfl) (Or.inr (of_decide_eq_true hg6)) ?_
  refine go_aload_n hc dL_law_1611 rfl rfl ?_
  refine go_aload_n hc dL_law_1612 rfl rfl ?_
  refine go_iload hc dL_law_1613 rfl ?_
  refine go_iconst hc dL_law_1615 ci_1 ?_
  refine go_iadd hc dL_law_1616 ?_
  obtain ⟨hg7, h⟩ := ogd_some h
  refine go_scr hc hX0 hg7 dL_law_1617 ?_
  refine go_aload_n hc dL_law_1618 rfl rfl ?_
  refine go_iload hc dL_law_1619 rfl ?_
  refine go_iconst hc dL_law_1621 ci_2 ?_
  refine go_iadd hc dL_law_1622 ?_
  obtain ⟨hg8, h⟩ := ogd_some h
  refine go_scr hc hX0 hg8 dL_law_1623 ?_
  obtain ⟨r9, σ10, hf11, h⟩ := obi_some h
  obtain ⟨hg12, h⟩ := ogd_some h
  refine go_callVi hc ho cmX10_ask mlL_201 dL_law_1624 ok_81 (As := [.int (xs (l4 + (1 : Int32)).toNatClampNeg), .int (xs (l4 + (2 : Int32)).toNatClampNeg)]) (rest := [.int r3]) (rX10_ask (N := 4) hf11 (Nat.le_refl _)) rfl (Nat.le_trans (Nat.le_of_ble_eq_true rfl) hN) rfl (Nat.le_of_ble_eq_true rfl) (Or.inr (of_decide_eq_true hg12)) ?_
  refine go_icmp_eq (tgt := 1876) hc dL_law_1627 rfl (fun hh => ?_) (fun hh => ?_)
  · rw [if_pos hh] at h
    refine go_iinc hc (lv1 := [.ref 100, .ref 0, .ref 81, .ref 94, .int (l4 + 6), .null, .null]) dL_law_1876 rfl ci_6 hL (by decide) (fun _ _ e => by cases e; rfl) rfl ?_
    refine go_goto (tgt := 23) hc dL_law_1879 rfl ?_
    exact hrc23 (l4 + 6) _ h
  · rw [if_neg hh] at h
    refine go_iconst hc dL_law_1630 ci_0 ?_
    exact (ol01 h).elim
def fL_law_b1546 (xs : Nat → Int32) (L : Nat) (rc23 : Int32 → OM → Option (Int32 × OM)) (l4 : Int32) (σ : OM) : Option (Int32 × OM) :=
  ogd (oin (l4 + (1 : Int32)) L) (
  ogd (oin (l4 + (2 : Int32)) L) (
  ogd (oin (l4 + (3 : Int32)) L) (
  obi (fX9_births (xs (l4 + (1 : Int32)).toNatClampNeg) (xs (l4 + (2 : Int32)).toNatClampNeg) (xs (l4 + (3 : Int32)).toNatClampNeg) σ) (fun r4 σ5 =>
  ogd (decide (mR σ5 96 0 = mR σ 96 0)) (
  ogd (oin (l4 + (1 : Int32)) L) (
  ogd (oin (l4 + (2 : Int32)) L) (
  ogd (oin (l4 + (3 : Int32)) L) (
  obi (fX10_births (xs (l4 + (1 : Int32)).toNatClampNeg) (xs (l4 + (2 : Int32)).toNatClampNeg) (xs (l4 + (3 : Int32)).toNatClampNeg) σ5) (fun r11 σ12 =>
  ogd (decide (mR σ12 96 0 = mR σ5 96 0)) (
  if r4 = r11 then (
   rc23 (l4 + 6) σ12)
  else (some ((0 : Int32), σ12))))))))))))
set_option maxRecDepth 100000 in
set_option maxHeartbeats 4000000 in
theorem rL_law_b1546 {K : OK} (hc : kcc K = code) (ho : kow K = RL) (hL : knL K = 7) (hN : 1300 ≤ kN K) {xs : Nat → Int32} {L : Nat} (hX0 : oLx K L xs) (hlx : oLz K) {σ0 : OM} {rc23 : Int32 → OM → Option (Int32 × OM)} (hrc23 : ∀ (l4 : Int32) (σ : OM), rc23 l4 σ = some ((1 : Int32), σ0) → Go K 23 [.ref 100, .ref 0, .ref 81, .ref 94, .int l4, .null, .null] [] σ) {l4 : Int32} {σ : OM} (h : fL_law_b1546 xs L rc23 l4 σ = some ((1 : Int32), σ0)) : Go K 1546 [.ref 100, .ref 0, .ref 81, .ref 94, .int l4, .null, .null] [] σ := by
  unfold fL_law_b1546 at h
  refine go_aload_n hc dL_law_1546 rfl rfl ?_
  refine go_aload_n hc dL_law_1547 rfl rfl ?_
  refine go_iload hc dL_law_1548 rfl ?_
  refine go_iconst hc dL_law_1550 ci_1 ?_
  refine go_iadd hc dL_law_1551 ?_
  obtain ⟨hg1, h⟩ := ogd_some h
  refine go_scr hc hX0 hg1 dL_law_1552 ?_
  refine go_aload_n hc dL_law_1553 rfl rfl ?_
  refine go_iload hc dL_law_1554 rfl ?_
  refine go_iconst hc dL_law_1556 ci_2 ?_
  refine go_iadd hc dL_law_1557 ?_
  obtain ⟨hg2, h⟩ := ogd_some h
  refine go_scr hc hX0 hg2 dL_law_1558 ?_
  refine go_aload_n hc dL_law_1559 rfl rfl ?_
  refine go_iload hc dL_law_1560 rfl ?_
  refine go_iconst hc dL_law_1562 ci_3 ?_
  refine go_iadd hc dL_law_1563 ?_
  obtain ⟨hg3, h⟩ := ogd_some h
  refine go_scr hc hX0 hg3 dL_law_1564 ?_
  obtain ⟨r4, σ5, hf6, h⟩ := obi_some h
  obtain ⟨hg7, h⟩ := ogd_some h
  refine go_callVi hc ho cmX9_births mlL_193 dL_law_1565 ok_0 (As := [.int (xs (l4 + (1 : Int32)).toNatClampNeg), .int (xs (l4 + (2 : Int32)).toNatClampNeg), .int (xs (l4 + (3 : Int32)).toNatClampNeg)]) (rest := []) (rX9_births (N := 1) hf6 (Nat.le_refl _)) rfl (Nat.le_trans (Nat.le_of_ble_eq_true rfl) hN) rfl (Nat.le_of_ble_eq_true rfl) (Or.inr (of_decide_eq_true hg7)) ?_
  refine go_aload_n hc dL_law_1568 rfl rfl ?_
  refine go_aload_n hc dL_law_1569 rfl rfl ?_
  refine go_iload hc dL_law_1570 rfl ?_
  refine go_iconst hc dL_law_1572 ci_1 ?_
  refine go_iadd hc dL_law_1573 ?_
  obtain ⟨hg8, h⟩ := ogd_some h
  refine go_scr hc hX0 hg8 dL_law_1574 ?_
  refine go_aload_n hc dL_law_1575 rfl rfl ?_
  refine go_iload hc dL_law_1576 rfl ?_
  refine go_iconst hc dL_law_1578 ci_2 ?_
  refine go_iadd hc dL_law_1579 ?_
  obtain ⟨hg9, h⟩ := ogd_some h
  refine go_scr hc hX0 hg9 dL_law_1580 ?_
  refine go_aload_n hc dL_law_1581 rfl rfl ?_
  refine go_iload hc dL_law_1582 rfl ?_
  refine go_iconst hc dL_law_1584 ci_3 ?_
  refine go_iadd hc dL_law_1585 ?_
  obtain ⟨hg10, h⟩ := ogd_some h
  refine go_scr hc hX0 hg10 dL_law_1586 ?_
  obtain ⟨r11, σ12, hf13, h⟩ := obi_some h
  obtain ⟨hg14, h⟩ := ogd_some h
  refine go_callVi hc ho cmX10_births mlL_197 dL_law_1587 ok_81 (As := [.int (xs (l4 + (1 : Int32)).toNatClampNeg), .int (xs (l4 + (2 : Int32)).toNatClampNeg), .int (xs (l4 + (3 : Int32)).toNatClampNeg)]) (rest := [.int r4]) (rX10_births (N := 2) hf13 (Nat.le_refl _)) rfl (Nat.le_trans (Nat.le_of_ble_eq_true rfl) hN) rfl (Nat.le_of_ble_eq_true rfl) (Or.inr (of_decide_eq_true hg14)) ?_
  refine go_icmp_eq (tgt := 1876) hc dL_law_1590 rfl (fun hh => ?_) (fun hh => ?_)
  · rw [if_pos hh] at h
    refine go_iinc hc (lv1 := [.ref 100, .ref 0, .ref 81, .ref 94, .int (l4 + 6), .null, .null]) dL_law_1876 rfl ci_6 hL (by decide) (fun _ _ e => by cases e; rfl) rfl ?_
    refine go_goto (tgt := 23) hc dL_law_1879 rfl ?_
    exact hrc23 (l4 + 6) _ h
  · rw [if_neg hh] at h
    refine go_iconst hc dL_law_1593 ci_0 ?_
    exact (ol01 h).elim
def fL_law_b1521 (xs : Nat → Int32) (L : Nat) (rc23 : Int32 → OM → Option (Int32 × OM)) (l4 : Int32) (σ : OM) : Option (Int32 × OM) :=
  ogd (oin (l4 + (1 : Int32)) L) (
  obi (fX9_turnsTo (xs (l4 + (1 : Int32)).toNatClampNeg) σ) (fun r2 σ3 =>
  ogd (decide (mR σ3 96 0 = mR σ 96 0)) (
  ogd (oin (l4 + (1 : Int32)) L) (
  obi (fX10_turnsTo (xs (l4 + (1 : Int32)).toNatClampNeg) σ3) (fun r7 σ8 =>
  ogd (decide (mR σ8 96 0 = mR σ3 96 0)) (
  if r2 = r7 then (
   rc23 (l4 + 6) σ8)
  else (some ((0 : Int32), σ8))))))))
set_option maxRecDepth 100000 in
set_option maxHeartbeats 4000000 in
theorem rL_law_b1521 {K : OK} (hc : kcc K = code) (ho : kow K = RL) (hL : knL K = 7) (hN : 1300 ≤ kN K) {xs : Nat → Int32} {L : Nat} (hX0 : oLx K L xs) (hlx : oLz K) {σ0 : OM} {rc23 : Int32 → OM → Option (Int32 × OM)} (hrc23 : ∀ (l4 : Int32) (σ : OM), rc23 l4 σ = some ((1 : Int32), σ0) → Go K 23 [.ref 100, .ref 0, .ref 81, .ref 94, .int l4, .null, .null] [] σ) {l4 : Int32} {σ : OM} (h : fL_law_b1521 xs L rc23 l4 σ = some ((1 : Int32), σ0)) : Go K 1521 [.ref 100, .ref 0, .ref 81, .ref 94, .int l4, .null, .null] [] σ := by
  unfold fL_law_b1521 at h
  refine go_aload_n hc dL_law_1521 rfl rfl ?_
  refine go_aload_n hc dL_law_1522 rfl rfl ?_
  refine go_iload hc dL_law_1523 rfl ?_
  refine go_iconst hc dL_law_1525 ci_1 ?_
  refine go_iadd hc dL_law_1526 ?_
  obtain ⟨hg1, h⟩ := ogd_some h
  refine go_scr hc hX0 hg1 dL_law_1527 ?_
  obtain ⟨r2, σ3, hf4, h⟩ := obi_some h
  obtain ⟨hg5, h⟩ := ogd_some h
  refine go_callVi hc ho cmX9_turnsTo mlL_189 dL_law_1528 ok_0 (As := [.int (xs (l4 + (1 : Int32)).toNatClampNeg)]) (rest := []) (rX9_turnsTo (N := 3) hf4 (Nat.le_refl _)) rfl (Nat.le_trans (Nat.le_of_ble_eq_true rfl) hN) rfl (Nat.le_of_ble_eq_true rfl) (Or.inr (of_decide_eq_true hg5)) ?_
  refine go_aload_n hc dL_law_1531 rfl rfl ?_
  refine go_aload_n hc dL_law_1532 rfl rfl ?_
  refine go_iload hc dL_law_1533 rfl ?_
  refine go_iconst hc dL_law_1535 ci_1 ?_
  refine go_iadd hc dL_law_1536 ?_
  obtain ⟨hg6, h⟩ := ogd_some h
  refine go_scr hc hX0 hg6 dL_law_1537 ?_
  obtain ⟨r7, σ8, hf9, h⟩ := obi_some h
  obtain ⟨hg10, h⟩ := ogd_some h
  refine go_callVi hc ho cmX10_turnsTo mlL_192 dL_law_1538 ok_81 (As := [.int (xs (l4 + (1 : Int32)).toNatClampNeg)]) (rest := [.int r2]) (rX10_turnsTo (N := 1) hf9 (Nat.le_refl _)) rfl (Nat.le_trans (Nat.le_of_ble_eq_true rfl) hN) rfl (Nat.le_of_ble_eq_true rfl) (Or.inr (of_decide_eq_true hg10)) ?_
  refine go_icmp_eq (tgt := 1876) hc dL_law_1541 rfl (fun hh => ?_) (fun hh => ?_)
  · rw [if_pos hh] at h
    refine go_iinc hc (lv1 := [.ref 100, .ref 0, .ref 81, .ref 94, .int (l4 + 6), .null, .null]) dL_law_1876 rfl ci_6 hL (by decide) (fun _ _ e => by cases e; rfl) rfl ?_
    refine go_goto (tgt := 23) hc dL_law_1879 rfl ?_
    exact hrc23 (l4 + 6) _ h
  · rw [if_neg hh] at h
    refine go_iconst hc dL_law_1544 ci_0 ?_
    exact (ol01 h).elim
def fL_law_b1496 (xs : Nat → Int32) (L : Nat) (rc23 : Int32 → OM → Option (Int32 × OM)) (l4 : Int32) (σ : OM) : Option (Int32 × OM) :=
  ogd (oin (l4 + (1 : Int32)) L) (
  obi (fX9_turnOf (xs (l4 + (1 : Int32)).toNatClampNeg) σ) (fun r2 σ3 =>
  ogd (decide (mR σ3 96 0 = mR σ 96 0)) (
  ogd (oin (l4 + (1 : Int32)) L) (
  obi (fX10_turnOf (xs (l4 + (1 : Int32)).toNatClampNeg) σ3) (fun r7 σ8 =>
  ogd (decide (mR σ8 96 0 = mR σ3 96 0)) (
  if r2 = r7 then (
   rc23 (l4 + 6) σ8)
  else (some ((0 : Int32), σ8))))))))
set_option maxRecDepth 100000 in
set_option maxHeartbeats 4000000 in
theorem rL_law_b1496 {K : OK} (hc : kcc K = code) (ho : kow K = RL) (hL : knL K = 7) (hN : 1300 ≤ kN K) {xs : Nat → Int32} {L : Nat} (hX0 : oLx K L xs) (hlx : oLz K) {σ0 : OM} {rc23 : Int32 → OM → Option (Int32 × OM)} (hrc23 : ∀ (l4 : Int32) (σ : OM), rc23 l4 σ = some ((1 : Int32), σ0) → Go K 23 [.ref 100, .ref 0, .ref 81, .ref 94, .int l4, .null, .null] [] σ) {l4 : Int32} {σ : OM} (h : fL_law_b1496 xs L rc23 l4 σ = some ((1 : Int32), σ0)) : Go K 1496 [.ref 100, .ref 0, .ref 81, .ref 94, .int l4, .null, .null] [] σ := by
  unfold fL_law_b1496 at h
  refine go_aload_n hc dL_law_1496 rfl rfl ?_
  refine go_aload_n hc dL_law_1497 rfl rfl ?_
  refine go_iload hc dL_law_1498 rfl ?_
  refine go_iconst hc dL_law_1500 ci_1 ?_
  refine go_iadd hc dL_law_1501 ?_
  obtain ⟨hg1, h⟩ := ogd_some h
  refine go_scr hc hX0 hg1 dL_law_1502 ?_
  obtain ⟨r2, σ3, hf4, h⟩ := obi_some h
  obtain ⟨hg5, h⟩ := ogd_some h
  refine go_callVi hc ho cmX9_turnOf mlL_185 dL_law_1503 ok_0 (As := [.int (xs (l4 + (1 : Int32)).toNatClampNeg)]) (rest := []) (rX9_turnOf (N := 3) hf4 (Nat.le_refl _)) rfl (Nat.le_trans (Nat.le_of_ble_eq_true rfl) hN) rfl (Nat.le_of_ble_eq_true rfl) (Or.inr (of_decide_eq_true hg5)) ?_
  refine go_aload_n hc dL_law_1506 rfl rfl ?_
  refine go_aload_n hc dL_law_1507 rfl rfl ?_
  refine go_iload hc dL_law_1508 rfl ?_
  refine go_iconst hc dL_law_1510 ci_1 ?_
  refine go_iadd hc dL_law_1511 ?_
  obtain ⟨hg6, h⟩ := ogd_some h
  refine go_scr hc hX0 hg6 dL_law_1512 ?_
  obtain ⟨r7, σ8, hf9, h⟩ := obi_some h
  obtain ⟨hg10, h⟩ := ogd_some h
  refine go_callVi hc ho cmX10_turnOf mlL_188 dL_law_1513 ok_81 (As := [.int (xs (l4 + (1 : Int32)).toNatClampNeg)]) (rest := [.int r2]) (rX10_turnOf (N := 1) hf9 (Nat.le_refl _)) rfl (Nat.le_trans (Nat.le_of_ble_eq_true rfl) hN) rfl (Nat.le_of_ble_eq_true rfl) (Or.inr (of_decide_eq_true hg10)) ?_
  refine go_icmp_eq (tgt := 1876) hc dL_law_1516 rfl (fun hh => ?_) (fun hh => ?_)
  · rw [if_pos hh] at h
    refine go_iinc hc (lv1 := [.ref 100, .ref 0, .ref 81, .ref 94, .int (l4 + 6), .null, .null]) dL_law_1876 rfl ci_6 hL (by decide) (fun _ _ e => by cases e; rfl) rfl ?_
    refine go_goto (tgt := 23) hc dL_law_1879 rfl ?_
    exact hrc23 (l4 + 6) _ h
  · rw [if_neg hh] at h
    refine go_iconst hc dL_law_1519 ci_0 ?_
    exact (ol01 h).elim
def fL_law_b1471 (xs : Nat → Int32) (L : Nat) (rc23 : Int32 → OM → Option (Int32 × OM)) (l4 : Int32) (σ : OM) : Option (Int32 × OM) :=
  ogd (oin (l4 + (1 : Int32)) L) (
  obi (fX9_next (xs (l4 + (1 : Int32)).toNatClampNeg) σ) (fun r2 σ3 =>
  ogd (decide (mR σ3 96 0 = mR σ 96 0)) (
  ogd (oin (l4 + (1 : Int32)) L) (
  obi (fX10_next (xs (l4 + (1 : Int32)).toNatClampNeg) σ3) (fun r7 σ8 =>
  ogd (decide (mR σ8 96 0 = mR σ3 96 0)) (
  if r2 = r7 then (
   rc23 (l4 + 6) σ8)
  else (some ((0 : Int32), σ8))))))))
set_option maxRecDepth 100000 in
set_option maxHeartbeats 4000000 in
theorem rL_law_b1471 {K : OK} (hc : kcc K = code) (ho : kow K = RL) (hL : knL K = 7) (hN : 1300 ≤ kN K) {xs : Nat → Int32} {L : Nat} (hX0 : oLx K L xs) (hlx : oLz K) {σ0 : OM} {rc23 : Int32 → OM → Option (Int32 × OM)} (hrc23 : ∀ (l4 : Int32) (σ : OM), rc23 l4 σ = some ((1 : Int32), σ0) → Go K 23 [.ref 100, .ref 0, .ref 81, .ref 94, .int l4, .null, .null] [] σ) {l4 : Int32} {σ : OM} (h : fL_law_b1471 xs L rc23 l4 σ = some ((1 : Int32), σ0)) : Go K 1471 [.ref 100, .ref 0, .ref 81, .ref 94, .int l4, .null, .null] [] σ := by
  unfold fL_law_b1471 at h
  refine go_aload_n hc dL_law_1471 rfl rfl ?_
  refine go_aload_n hc dL_law_1472 rfl rfl ?_
  refine go_iload hc dL_law_1473 rfl ?_
  refine go_iconst hc dL_law_1475 ci_1 ?_
  refine go_iadd hc dL_law_1476 ?_
  obtain ⟨hg1, h⟩ := ogd_some h
  refine go_scr hc hX0 hg1 dL_law_1477 ?_
  obtain ⟨r2, σ3, hf4, h⟩ := obi_some h
  obtain ⟨hg5, h⟩ := ogd_some h
  refine go_callVi hc ho cmX9_next mlL_181 dL_law_1478 ok_0 (As := [.int (xs (l4 + (1 : Int32)).toNatClampNeg)]) (rest := []) (rX9_next (N := 2) hf4 (Nat.le_refl _)) rfl (Nat.le_trans (Nat.le_of_ble_eq_true rfl) hN) rfl (Nat.le_of_ble_eq_true rfl) (Or.inr (of_decide_eq_true hg5)) ?_
  refine go_aload_n hc dL_law_1481 rfl rfl ?_
  refine go_aload_n hc dL_law_1482 rfl rfl ?_
  refine go_iload hc dL_law_1483 rfl ?_
  refine go_iconst hc dL_law_1485 ci_1 ?_
  refine go_iadd hc dL_law_1486 ?_
  obtain ⟨hg6, h⟩ := ogd_some h
  refine go_scr hc hX0 hg6 dL_law_1487 ?_
  obtain ⟨r7, σ8, hf9, h⟩ := obi_some h
  obtain ⟨hg10, h⟩ := ogd_some h
  refine go_callVi hc ho cmX10_next mlL_184 dL_law_1488 ok_81 (As := [.int (xs (l4 + (1 : Int32)).toNatClampNeg)]) (rest := [.int r2]) (rX10_next (N := 2) hf9 (Nat.le_refl _)) rfl (Nat.le_trans (Nat.le_of_ble_eq_true rfl) hN) rfl (Nat.le_of_ble_eq_true rfl) (Or.inr (of_decide_eq_true hg10)) ?_
  refine go_icmp_eq (tgt := 1876) hc dL_law_1491 rfl (fun hh => ?_) (fun hh => ?_)
  · rw [if_pos hh] at h
    refine go_iinc hc (lv1 := [.ref 100, .ref 0, .ref 81, .ref 94, .int (l4 + 6), .null, .null]) dL_law_1876 rfl ci_6 hL (by decide) (fun _ _ e => by cases e; rfl) rfl ?_
    refine go_goto (tgt := 23) hc dL_law_1879 rfl ?_
    exact hrc23 (l4 + 6) _ h
  · rw [if_neg hh] at h
    refine go_iconst hc dL_law_1494 ci_0 ?_
    exact (ol01 h).elim
def fL_law_b1434 (xs : Nat → Int32) (L : Nat) (rc23 : Int32 → OM → Option (Int32 × OM)) (l4 : Int32) (σ : OM) : Option (Int32 × OM) :=
  ogd (oin (l4 + (1 : Int32)) L) (
  ogd (oin (l4 + (2 : Int32)) L) (
  obi (fX9_asking (xs (l4 + (1 : Int32)).toNatClampNeg) (xs (l4 + (2 : Int32)).toNatClampNeg) σ) (fun r3 σ4 =>
  ogd (decide (mR σ4 96 0 = mR σ 96 0)) (
  ogd (oin (l4 + (1 : Int32)) L) (
  ogd (oin (l4 + (2 : Int32)) L) (
  obi (fX10_asking (xs (l4 + (1 : Int32)).toNatClampNeg) (xs (l4 + (2 : Int32)).toNatClampNeg) σ4) (fun r9 σ10 =>
  ogd (decide (mR σ10 96 0 = mR σ4 96 0)) (
  if r3 = r9 then (
   rc23 (l4 + 6) σ10)
  else (some ((0 : Int32), σ10))))))))))
set_option maxRecDepth 100000 in
set_option maxHeartbeats 4000000 in
theorem rL_law_b1434 {K : OK} (hc : kcc K = code) (ho : kow K = RL) (hL : knL K = 7) (hN : 1300 ≤ kN K) {xs : Nat → Int32} {L : Nat} (hX0 : oLx K L xs) (hlx : oLz K) {σ0 : OM} {rc23 : Int32 → OM → Option (Int32 × OM)} (hrc23 : ∀ (l4 : Int32) (σ : OM), rc23 l4 σ = some ((1 : Int32), σ0) → Go K 23 [.ref 100, .ref 0, .ref 81, .ref 94, .int l4, .null, .null] [] σ) {l4 : Int32} {σ : OM} (h : fL_law_b1434 xs L rc23 l4 σ = some ((1 : Int32), σ0)) : Go K 1434 [.ref 100, .ref 0, .ref 81, .ref 94, .int l4, .null, .null] [] σ := by
  unfold fL_law_b1434 at h
  refine go_aload_n hc dL_law_1434 rfl rfl ?_
  refine go_aload_n hc dL_law_1435 rfl rfl ?_
  refine go_iload hc dL_law_1436 rfl ?_
  refine go_iconst hc dL_law_1438 ci_1 ?_
  refine go_iadd hc dL_law_1439 ?_
  obtain ⟨hg1, h⟩ := ogd_some h
  refine go_scr hc hX0 hg1 dL_law_1440 ?_
  refine go_aload_n hc dL_law_1441 rfl rfl ?_
  refine go_iload hc dL_law_1442 rfl ?_
  refine go_iconst hc dL_law_1444 ci_2 ?_
  refine go_iadd hc dL_law_1445 ?_
  obtain ⟨hg2, h⟩ := ogd_some h
  refine go_scr hc hX0 hg2 dL_law_1446 ?_
  obtain ⟨r3, σ4, hf5, h⟩ := obi_some h
  obtain ⟨hg6, h⟩ := ogd_some h
  refine go_callVi hc ho cmX9_asking mlL_177 dL_law_1447 ok_0 (As := [.int (xs (l4 + (1 : Int32)).toNatClampNeg), .int (xs (l4 + (2 : Int32)).toNatClampNeg)]) (rest := []) (rX9_asking (N := 3) hf5 (Nat.le_refl _)) rfl (Nat.le_trans (Nat.le_of_ble_eq_true rfl) hN) rfl (Nat.le_of_ble_eq_true rfl) (Or.inr (of_decide_eq_true hg6)) ?_
  refine go_aload_n hc dL_law_1450 rfl rfl ?_
  refine go_aload_n hc dL_law_1451 rfl rfl ?_
  refine go_iload hc dL_law_1452 rfl ?_
  refine go_iconst hc dL_law_1454 ci_1 ?_
  refine go_iadd hc dL_law_1455 ?_
  obtain ⟨hg7, h⟩ := ogd_some h
  refine go_scr hc hX0 hg7 dL_law_1456 ?_
  refine go_aload_n hc dL_law_1457 rfl rfl ?_
  refine go_iload hc dL_law_1458 rfl ?_
  refine go_iconst hc dL_law_1460 ci_2 ?_
  refine go_iadd hc dL_law_1461 ?_
  obtain ⟨hg8, h⟩ := ogd_some h
  refine go_scr hc hX0 hg8 dL_law_1462 ?_
  obtain ⟨r9, σ10, hf11, h⟩ := obi_some h
  obtain ⟨hg12, h⟩ := ogd_some h
  refine go_callVi hc ho cmX10_asking mlL_180 dL_law_1463 ok_81 (As := [.int (xs (l4 + (1 : Int32)).toNatClampNeg), .int (xs (l4 + (2 : Int32)).toNatClampNeg)]) (rest := [.int r3]) (rX10_asking (N := 2) hf11 (Nat.le_refl _)) rfl (Nat.le_trans (Nat.le_of_ble_eq_true rfl) hN) rfl (Nat.le_of_ble_eq_true rfl) (Or.inr (of_decide_eq_true hg12)) ?_
  refine go_icmp_eq (tgt := 1876) hc dL_law_1466 rfl (fun hh => ?_) (fun hh => ?_)
  · rw [if_pos hh] at h
    refine go_iinc hc (lv1 := [.ref 100, .ref 0, .ref 81, .ref 94, .int (l4 + 6), .null, .null]) dL_law_1876 rfl ci_6 hL (by decide) (fun _ _ e => by cases e; rfl) rfl ?_
    refine go_goto (tgt := 23) hc dL_law_1879 rfl ?_
    exact hrc23 (l4 + 6) _ h
  · rw [if_neg hh] at h
    refine go_iconst hc dL_law_1469 ci_0 ?_
    exact (ol01 h).elim
def fL_law_b1368 (xs : Nat → Int32) (L : Nat) (rc23 : Int32 → OM → Option (Int32 × OM)) (l4 : Int32) (σ : OM) : Option (Int32 × OM) :=
  ogd (oin (l4 + (1 : Int32)) L) (
  ogd (oin (l4 + (2 : Int32)) L) (
  ogd (oin (l4 + (3 : Int32)) L) (
  if (xs (l4 + (3 : Int32)).toNatClampNeg) = 0 then (
   obi (fX9_mean (xs (l4 + (1 : Int32)).toNatClampNeg) (xs (l4 + (2 : Int32)).toNatClampNeg) (0 : Int32) σ) (fun r4 σ5 =>
   ogd (decide (mR σ5 96 0 = mR σ 96 0)) (
   ogd (oin (l4 + (1 : Int32)) L) (
   ogd (oin (l4 + (2 : Int32)) L) (
   ogd (oin (l4 + (3 : Int32)) L) (
   if (xs (l4 + (3 : Int32)).toNatClampNeg) = 0 then (
    obi (fX10_mean (xs (l4 + (1 : Int32)).toNatClampNeg) (xs (l4 + (2 : Int32)).toNatClampNeg) (0 : Int32) σ5) (fun r11 σ12 =>
    ogd (decide (mR σ12 96 0 = mR σ5 96 0)) (
    if (lg_cmp r4 r11) = 0 then (
     rc23 (l4 + 6) σ12)
    else (some ((0 : Int32), σ12)))))
   else (obi (fX10_mean (xs (l4 + (1 : Int32)).toNatClampNeg) (xs (l4 + (2 : Int32)).toNatClampNeg) (1 : Int32) σ5) (fun r15 σ16 =>
   ogd (decide (mR σ16 96 0 = mR σ5 96 0)) (
   if (lg_cmp r4 r15) = 0 then (
    rc23 (l4 + 6) σ16)
   else (some ((0 : Int32), σ16)))))))))))
  else (obi (fX9_mean (xs (l4 + (1 : Int32)).toNatClampNeg) (xs (l4 + (2 : Int32)).toNatClampNeg) (1 : Int32) σ) (fun r19 σ20 =>
  ogd (decide (mR σ20 96 0 = mR σ 96 0)) (
  ogd (oin (l4 + (1 : Int32)) L) (
  ogd (oin (l4 + (2 : Int32)) L) (
  ogd (oin (l4 + (3 : Int32)) L) (
  if (xs (l4 + (3 : Int32)).toNatClampNeg) = 0 then (
   obi (fX10_mean (xs (l4 + (1 : Int32)).toNatClampNeg) (xs (l4 + (2 : Int32)).toNatClampNeg) (0 : Int32) σ20) (fun r26 σ27 =>
   ogd (decide (mR σ27 96 0 = mR σ20 96 0)) (
   if (lg_cmp r19 r26) = 0 then (
    rc23 (l4 + 6) σ27)
   else (some ((0 : Int32), σ27)))))
  else (obi (fX10_mean (xs (l4 + (1 : Int32)).toNatClampNeg) (xs (l4 + (2 : Int32)).toNatClampNeg) (1 : Int32) σ20) (fun r30 σ31 =>
  ogd (decide (mR σ31 96 0 = mR σ20 96 0)) (
  if (lg_cmp r19 r30) = 0 then (
   rc23 (l4 + 6) σ31)
  else (some ((0 : Int32), σ31))))))))))))))
set_option maxRecDepth 100000 in
set_option maxHeartbeats 4000000 in
theorem rL_law_b1368 {K : OK} (hc : kcc K = code) (ho : kow K = RL) (hL : knL K = 7) (hN : 1300 ≤ kN K) {xs : Nat → Int32} {L : Nat} (hX0 : oLx K L xs) (hlx : oLz K) {σ0 : OM} {rc23 : Int32 → OM → Option (Int32 × OM)} (hrc23 : ∀ (l4 : Int32) (σ : OM), rc23 l4 σ = some ((1 : Int32), σ0) → Go K 23 [.ref 100, .ref 0, .ref 81, .ref 94, .int l4, .null, .null] [] σ) {l4 : Int32} {σ : OM} (h : fL_law_b1368 xs L rc23 l4 σ = some ((1 : Int32), σ0)) : Go K 1368 [.ref 100, .ref 0, .ref 81, .ref 94, .int l4, .null, .null] [] σ := by
  unfold fL_law_b1368 at h
  refine go_aload_n hc dL_law_1368 rfl rfl ?_
  refine go_aload_n hc dL_law_1369 rfl rfl ?_
  refine go_iload hc dL_law_1370 rfl ?_
  refine go_iconst hc dL_law_1372 ci_1 ?_
  refine go_iadd hc dL_law_1373 ?_
  obtain ⟨hg1, h⟩ := ogd_some h
  refine go_scr hc hX0 hg1 dL_law_1374 ?_
  refine go_aload_n hc dL_law_1375 rfl rfl ?_
  refine go_iload hc dL_law_1376 rfl ?_
  refine go_iconst hc dL_law_1378 ci_2 ?_
  refine go_iadd hc dL_law_1379 ?_
  obtain ⟨hg2, h⟩ := ogd_some h
  refine go_scr hc hX0 hg2 dL_law_1380 ?_
  refine go_aload_n hc dL_law_1381 rfl rfl ?_
  refine go_iload hc dL_law_1382 rfl ?_
  refine go_iconst hc dL_law_1384 ci_3 ?_
  refine go_iadd hc dL_law_1385 ?_
  obtain ⟨hg3, h⟩ := ogd_some h
  refine go_scr hc hX0 hg3 dL_law_1386 ?_
  refine go_if_eq (tgt := 1394) hc dL_law_1387 rfl (fun hh => ?_) (fun hh => ?_)
  · rw [if_pos hh] at h
    refine go_iconst hc dL_law_1394 ci_0 ?_
    obtain ⟨r4, σ5, hf6, h⟩ := obi_some h
    obtain ⟨hg7, h⟩ := ogd_some h
    refine go_callVl hc ho cmX9_mean mlL_173 dL_law_1395 ok_0 (As := [.int (xs (l4 + (1 : Int32)).toNatClampNeg), .int (xs (l4 + (2 : Int32)).toNatClampNeg), .int (0 : Int32)]) (rest := []) (rX9_mean (N := 23) hf6 (Nat.le_refl _)) rfl (Nat.le_trans (Nat.le_of_ble_eq_true rfl) hN) rfl (Nat.le_of_ble_eq_true rfl) (Or.inr (of_decide_eq_true hg7)) ?_
    refine go_aload_n hc dL_law_1398 rfl rfl ?_
    refine go_aload_n hc dL_law_1399 rfl rfl ?_
    refine go_iload hc dL_law_1400 rfl ?_
    refine go_iconst hc dL_law_1402 ci_1 ?_
    refine go_iadd hc dL_law_1403 ?_
    obtain ⟨hg8, h⟩ := ogd_some h
    refine go_scr hc hX0 hg8 dL_law_1404 ?_
    refine go_aload_n hc dL_law_1405 rfl rfl ?_
    refine go_iload hc dL_law_1406 rfl ?_
    refine go_iconst hc dL_law_1408 ci_2 ?_
    refine go_iadd hc dL_law_1409 ?_
    obtain ⟨hg9, h⟩ := ogd_some h
    refine go_scr hc hX0 hg9 dL_law_1410 ?_
    refine go_aload_n hc dL_law_1411 rfl rfl ?_
    refine go_iload hc dL_law_1412 rfl ?_
    refine go_iconst hc dL_law_1414 ci_3 ?_
    refine go_iadd hc dL_law_1415 ?_
    obtain ⟨hg10, h⟩ := ogd_some h
    refine go_scr hc hX0 hg10 dL_law_1416 ?_
    refine go_if_eq (tgt := 1424) hc dL_law_1417 rfl (fun hh => ?_) (fun hh => ?_)
    · rw [if_pos hh] at h
      refine go_iconst hc dL_law_1424 ci_0 ?_
      obtain ⟨r11, σ12, hf13, h⟩ := obi_some h
      obtain ⟨hg14, h⟩ := ogd_some h
      refine go_callVl hc ho cmX10_mean mlL_176 dL_law_1425 ok_81 (As := [.int (xs (l4 + (1 : Int32)).toNatClampNeg), .int (xs (l4 + (2 : Int32)).toNatClampNeg), .int (0 : Int32)]) (rest := [.long r4]) (rX10_mean (N := 13) hf13 (Nat.le_refl _)) rfl (Nat.le_trans (Nat.le_of_ble_eq_true rfl) hN) rfl (Nat.le_of_ble_eq_true rfl) (Or.inr (of_decide_eq_true hg14)) ?_
      refine go_lcmp hc dL_law_1428 ?_
      refine go_if_eq (tgt := 1876) hc dL_law_1429 rfl (fun hh => ?_) (fun hh => ?_)
      · rw [if_pos hh] at h
        refine go_iinc hc (lv1 := [.ref 100, .ref 0, .ref 81, .ref 94, .int (l4 + 6), .null, .null]) dL_law_1876 rfl ci_6 hL (by decide) (fun _ _ e => by cases e; rfl) rfl ?_
        refine go_goto (tgt := 23) hc dL_law_1879 rfl ?_
        exact hrc23 (l4 + 6) _ h
      · rw [if_neg hh] at h
        refine go_iconst hc dL_law_1432 ci_0 ?_
        exact (ol01 h).elim
    · rw [if_neg hh] at h
      refine go_iconst hc dL_law_1420 ci_1 ?_
      refine go_goto (tgt := 1425) hc dL_law_1421 rfl ?_
      obtain ⟨r15, σ16, hf17, h⟩ := obi_some h
      obtain ⟨hg18, h⟩ := ogd_some h
      refine go_callVl hc ho cmX10_mean mlL_176 dL_law_1425 ok_81 (As := [.int (xs (l4 + (1 : Int32)).toNatClampNeg), .int (xs (l4 + (2 : Int32)).toNatClampNeg), .int (1 : Int32)]) (rest := [.long r4]) (rX10_mean (N := 13) hf17 (Nat.le_refl _)) rfl (Nat.le_trans (Nat.le_of_ble_eq_true rfl) hN) rfl (Nat.le_of_ble_eq_true rfl) (Or.inr (of_decide_eq_true hg18)) ?_
      refine go_lcmp hc dL_law_1428 ?_
      refine go_if_eq (tgt := 1876) hc dL_law_1429 rfl (fun hh => ?_) (fun hh => ?_)
      · rw [if_pos hh] at h
        refine go_iinc hc (lv1 := [.ref 100, .ref 0, .ref 81, .ref 94, .int (l4 + 6), .null, .null]) dL_law_1876 rfl ci_6 hL (by decide) (fun _ _ e => by cases e; rfl) rfl ?_
        refine go_goto (tgt := 23) hc dL_law_1879 rfl ?_
        exact hrc23 (l4 + 6) _ h
      · rw [if_neg hh] at h
        refine go_iconst hc dL_law_1432 ci_0 ?_
        exact (ol01 h).elim
  · rw [if_neg hh] at h
    refine go_iconst hc dL_law_1390 ci_1 ?_
    refine go_goto (tgt := 1395) hc dL_law_1391 rfl ?_
    obtain ⟨r19, σ20, hf21, h⟩ := obi_some h
    obtain ⟨hg22, h⟩ := ogd_some h
    refine go_callVl hc ho cmX9_mean mlL_173 dL_law_1395 ok_0 (As := [.int (xs (l4 + (1 : Int32)).toNatClampNeg), .int (xs (l4 + (2 : Int32)).toNatClampNeg), .int (1 : Int32)]) (rest := []) (rX9_mean (N := 23) hf21 (Nat.le_refl _)) rfl (Nat.le_trans (Nat.le_of_ble_eq_true rfl) hN) rfl (Nat.le_of_ble_eq_true rfl) (Or.inr (of_decide_eq_true hg22)) ?_
    refine go_aload_n hc dL_law_1398 rfl rfl ?_
    refine go_aload_n hc dL_law_1399 rfl rfl ?_
    refine go_iload hc dL_law_1400 rfl ?_
    refine go_iconst hc dL_law_1402 ci_1 ?_
    refine go_iadd hc dL_law_1403 ?_
    obtain ⟨hg23, h⟩ := ogd_some h
    refine go_scr hc hX0 hg23 dL_law_1404 ?_
    refine go_aload_n hc dL_law_1405 rfl rfl ?_
    refine go_iload hc dL_law_1406 rfl ?_
    refine go_iconst hc dL_law_1408 ci_2 ?_
    refine go_iadd hc dL_law_1409 ?_
    obtain ⟨hg24, h⟩ := ogd_some h
    refine go_scr hc hX0 hg24 dL_law_1410 ?_
    refine go_aload_n hc dL_law_1411 rfl rfl ?_
    refine go_iload hc dL_law_1412 rfl ?_
    refine go_iconst hc dL_law_1414 ci_3 ?_
    refine go_iadd hc dL_law_1415 ?_
    obtain ⟨hg25, h⟩ := ogd_some h
    refine go_scr hc hX0 hg25 dL_law_1416 ?_
    refine go_if_eq (tgt := 1424) hc dL_law_1417 rfl (fun hh => ?_) (fun hh => ?_)
    · rw [if_pos hh] at h
      refine go_iconst hc dL_law_1424 ci_0 ?_
      obtain ⟨r26, σ27, hf28, h⟩ := obi_some h
      obtain ⟨hg29, h⟩ := ogd_some h
      refine go_callVl hc ho cmX10_mean mlL_176 dL_law_1425 ok_81 (As := [.int (xs (l4 + (1 : Int32)).toNatClampNeg), .int (xs (l4 + (2 : Int32)).toNatClampNeg), .int (0 : Int32)]) (rest := [.long r19]) (rX10_mean (N := 13) hf28 (Nat.le_refl _)) rfl (Nat.le_trans (Nat.le_of_ble_eq_true rfl) hN) rfl (Nat.le_of_ble_eq_true rfl) (Or.inr (of_decide_eq_true hg29)) ?_
      refine go_lcmp hc dL_law_1428 ?_
      refine go_if_eq (tgt := 1876) hc dL_law_1429 rfl (fun hh => ?_) (fun hh => ?_)
      · rw [if_pos hh] at h
        refine go_iinc hc (lv1 := [.ref 100, .ref 0, .ref 81, .ref 94, .int (l4 + 6), .null, .null]) dL_law_1876 rfl ci_6 hL (by decide) (fun _ _ e => by cases e; rfl) rfl ?_
        refine go_goto (tgt := 23) hc dL_law_1879 rfl ?_
        exact hrc23 (l4 + 6) _ h
      · rw [if_neg hh] at h
        refine go_iconst hc dL_law_1432 ci_0 ?_
        exact (ol01 h).elim
    · rw [if_neg hh] at h
      refine go_iconst hc dL_law_1420 ci_1 ?_
      refine go_goto (tgt := 1425) hc dL_law_1421 rfl ?_
      obtain ⟨r30, σ31, hf32, h⟩ := obi_some h
      obtain ⟨hg33, h⟩ := ogd_some h
      refine go_callVl hc ho cmX10_mean mlL_176 dL_law_1425 ok_81 (As := [.int (xs (l4 + (1 : Int32)).toNatClampNeg), .int (xs (l4 + (2 : Int32)).toNatClampNeg), .int (1 : Int32)]) (rest := [.long r19]) (rX10_mean (N := 13) hf32 (Nat.le_refl _)) rfl (Nat.le_trans (Nat.le_of_ble_eq_true rfl) hN) rfl (Nat.le_of_ble_eq_true rfl) (Or.inr (of_decide_eq_true hg33)) ?_
      refine go_lcmp hc dL_law_1428 ?_
      refine go_if_eq (tgt := 1876) hc dL_law_1429 rfl (fun hh => ?_) (fun hh => ?_)
      · rw [if_pos hh] at h
        refine go_iinc hc (lv1 := [.ref 100, .ref 0, .ref 81, .ref 94, .int (l4 + 6), .null, .null]) dL_law_1876 rfl ci_6 hL (by decide) (fun _ _ e => by cases e; rfl) rfl ?_
        refine go_goto (tgt := 23) hc dL_law_1879 rfl ?_
        exact hrc23 (l4 + 6) _ h
      · rw [if_neg hh] at h
        refine go_iconst hc dL_law_1432 ci_0 ?_
        exact (ol01 h).elim
def fL_law_b1331 (xs : Nat → Int32) (L : Nat) (rc23 : Int32 → OM → Option (Int32 × OM)) (l4 : Int32) (σ : OM) : Option (Int32 × OM) :=
  ogd (oin (l4 + (1 : Int32)) L) (
  ogd (oin (l4 + (2 : Int32)) L) (
  obi (fX9_first (xs (l4 + (1 : Int32)).toNatClampNeg) (xs (l4 + (2 : Int32)).toNatClampNeg) σ) (fun r3 σ4 =>
  ogd (decide (mR σ4 96 0 = mR σ 96 0)) (
  ogd (oin (l4 + (1 : Int32)) L) (
  ogd (oin (l4 + (2 : Int32)) L) (
  obi (fX10_first (xs (l4 + (1 : Int32)).toNatClampNeg) (xs (l4 + (2 : Int32)).toNatClampNeg) σ4) (fun r9 σ10 =>
  ogd (decide (mR σ10 96 0 = mR σ4 96 0)) (
  if r3 = r9 then (
   rc23 (l4 + 6) σ10)
  else (some ((0 : Int32), σ10))))))))))
set_option maxRecDepth 100000 in
set_option maxHeartbeats 4000000 in
theorem rL_law_b1331 {K : OK} (hc : kcc K = code) (ho : kow K = RL) (hL : knL K = 7) (hN : 1300 ≤ kN K) {xs : Nat → Int32} {L : Nat} (hX0 : oLx K L xs) (hlx : oLz K) {σ0 : OM} {rc23 : Int32 → OM → Option (Int32 × OM)} (hrc23 : ∀ (l4 : Int32) (σ : OM), rc23 l4 σ = some ((1 : Int32), σ0) → Go K 23 [.ref 100, .ref 0, .ref 81, .ref 94, .int l4, .null, .null] [] σ) {l4 : Int32} {σ : OM} (h : fL_law_b1331 xs L rc23 l4 σ = some ((1 : Int32), σ0)) : Go K 1331 [.ref 100, .ref 0, .ref 81, .ref 94, .int l4, .null, .null] [] σ := by
  unfold fL_law_b1331 at h
  refine go_aload_n hc dL_law_1331 rfl rfl ?_
  refine go_aload_n hc dL_law_1332 rfl rfl ?_
  refine go_iload hc dL_law_1333 rfl ?_
  refine go_iconst hc dL_law_1335 ci_1 ?_
  refine go_iadd hc dL_law_1336 ?_
  obtain ⟨hg1, h⟩ := ogd_some h
  refine go_scr hc hX0 hg1 dL_law_1337 ?_
  refine go_aload_n hc dL_law_1338 rfl rfl ?_
  refine go_iload hc dL_law_1339 rfl ?_
  refine go_iconst hc dL_law_1341 ci_2 ?_
  refine go_iadd hc dL_law_1342 ?_
  obtain ⟨hg2, h⟩ := ogd_some h
  refine go_scr hc hX0 hg2 dL_law_1343 ?_
  obtain ⟨r3, σ4, hf5, h⟩ := obi_some h
  obtain ⟨hg6, h⟩ := ogd_some h
  refine go_callVi hc ho cmX9_first mlL_169 dL_law_1344 ok_0 (As := [.int (xs (l4 + (1 : Int32)).toNatClampNeg), .int (xs (l4 + (2 : Int32)).toNatClampNeg)]) (rest := []) (rX9_first (N := 24) hf5 (Nat.le_refl _)) rfl (Nat.le_trans (Nat.le_of_ble_eq_true rfl) hN) rfl (Nat.le_of_ble_eq_true rfl) (Or.inr (of_decide_eq_true hg6)) ?_
  refine go_aload_n hc dL_law_1347 rfl rfl ?_
  refine go_aload_n hc dL_law_1348 rfl rfl ?_
  refine go_iload hc dL_law_1349 rfl ?_
  refine go_iconst hc dL_law_1351 ci_1 ?_
  refine go_iadd hc dL_law_1352 ?_
  obtain ⟨hg7, h⟩ := ogd_some h
  refine go_scr hc hX0 hg7 dL_law_1353 ?_
  refine go_aload_n hc dL_law_1354 rfl rfl ?_
  refine go_iload hc dL_law_1355 rfl ?_
  refine go_iconst hc dL_law_1357 ci_2 ?_
  refine go_iadd hc dL_law_1358 ?_
  obtain ⟨hg8, h⟩ := ogd_some h
  refine go_scr hc hX0 hg8 dL_law_1359 ?_
  obtain ⟨r9, σ10, hf11, h⟩ := obi_some h
  obtain ⟨hg12, h⟩ := ogd_some h
  refine go_callVi hc ho cmX10_first mlL_172 dL_law_1360 ok_81 (As := [.int (xs (l4 + (1 : Int32)).toNatClampNeg), .int (xs (l4 + (2 : Int32)).toNatClampNeg)]) (rest := [.int r3]) (rX10_first (N := 22) hf11 (Nat.le_refl _)) rfl (Nat.le_trans (Nat.le_of_ble_eq_true rfl) hN) rfl (Nat.le_of_ble_eq_true rfl) (Or.inr (of_decide_eq_true hg12)) ?_
  refine go_icmp_eq (tgt := 1876) hc dL_law_1363 rfl (fun hh => ?_) (fun hh => ?_)
  · rw [if_pos hh] at h
    refine go_iinc hc (lv1 := [.ref 100, .ref 0, .ref 81, .ref 94, .int (l4 + 6), .null, .null]) dL_law_1876 rfl ci_6 hL (by decide) (fun _ _ e => by cases e; rfl) rfl ?_
    refine go_goto (tgt := 23) hc dL_law_1879 rfl ?_
    exact hrc23 (l4 + 6) _ h
  · rw [if_neg hh] at h
    refine go_iconst hc dL_law_1366 ci_0 ?_
    exact (ol01 h).elim
def fL_law_b1294 (xs : Nat → Int32) (L : Nat) (rc23 : Int32 → OM → Option (Int32 × OM)) (l4 : Int32) (σ : OM) : Option (Int32 × OM) :=
  ogd (oin (l4 + (1 : Int32)) L) (
  ogd (oin (l4 + (2 : Int32)) L) (
  obi (fX9_fewest (xs (l4 + (1 : Int32)).toNatClampNeg) (xs (l4 + (2 : Int32)).toNatClampNeg) σ) (fun r3 σ4 =>
  ogd (decide (mR σ4 96 0 = mR σ 96 0)) (
  ogd (oin (l4 + (1 : Int32)) L) (
  ogd (oin (l4 + (2 : Int32)) L) (
  obi (fX10_fewest (xs (l4 + (1 : Int32)).toNatClampNeg) (xs (l4 + (2 : Int32)).toNatClampNeg) σ4) (fun r9 σ10 =>
  ogd (decide (mR σ10 96 0 = mR σ4 96 0)) (
  if r3 = r9 then (
   rc23 (l4 + 6) σ10)
  else (some ((0 : Int32), σ10))))))))))
set_option maxRecDepth 100000 in
set_option maxHeartbeats 4000000 in
theorem rL_law_b1294 {K : OK} (hc : kcc K = code) (ho : kow K = RL) (hL : knL K = 7) (hN : 1300 ≤ kN K) {xs : Nat → Int32} {L : Nat} (hX0 : oLx K L xs) (hlx : oLz K) {σ0 : OM} {rc23 : Int32 → OM → Option (Int32 × OM)} (hrc23 : ∀ (l4 : Int32) (σ : OM), rc23 l4 σ = some ((1 : Int32), σ0) → Go K 23 [.ref 100, .ref 0, .ref 81, .ref 94, .int l4, .null, .null] [] σ) {l4 : Int32} {σ : OM} (h : fL_law_b1294 xs L rc23 l4 σ = some ((1 : Int32), σ0)) : Go K 1294 [.ref 100, .ref 0, .ref 81, .ref 94, .int l4, .null, .null] [] σ := by
  unfold fL_law_b1294 at h
  refine go_aload_n hc dL_law_1294 rfl rfl ?_
  refine go_aload_n hc dL_law_1295 rfl rfl ?_
  refine go_iload hc dL_law_1296 rfl ?_
  refine go_iconst hc dL_law_1298 ci_1 ?_
  refine go_iadd hc dL_law_1299 ?_
  obtain ⟨hg1, h⟩ := ogd_some h
  refine go_scr hc hX0 hg1 dL_law_1300 ?_
  refine go_aload_n hc dL_law_1301 rfl rfl ?_
  refine go_iload hc dL_law_1302 rfl ?_
  refine go_iconst hc dL_law_1304 ci_2 ?_
  refine go_iadd hc dL_law_1305 ?_
  obtain ⟨hg2, h⟩ := ogd_some h
  refine go_scr hc hX0 hg2 dL_law_1306 ?_
  obtain ⟨r3, σ4, hf5, h⟩ := obi_some h
  obtain ⟨hg6, h⟩ := ogd_some h
  refine go_callVi hc ho cmX9_fewest mlL_165 dL_law_1307 ok_0 (As := [.int (xs (l4 + (1 : Int32)).toNatClampNeg), .int (xs (l4 + (2 : Int32)).toNatClampNeg)]) (rest := []) (rX9_fewest (N := 23) hf5 (Nat.le_refl _)) rfl (Nat.le_trans (Nat.le_of_ble_eq_true rfl) hN) rfl (Nat.le_of_ble_eq_true rfl) (Or.inr (of_decide_eq_true hg6)) ?_
  refine go_aload_n hc dL_law_1310 rfl rfl ?_
  refine go_aload_n hc dL_law_1311 rfl rfl ?_
  refine go_iload hc dL_law_1312 rfl ?_
  refine go_iconst hc dL_law_1314 ci_1 ?_
  refine go_iadd hc dL_law_1315 ?_
  obtain ⟨hg7, h⟩ := ogd_some h
  refine go_scr hc hX0 hg7 dL_law_1316 ?_
  refine go_aload_n hc dL_law_1317 rfl rfl ?_
  refine go_iload hc dL_law_1318 rfl ?_
  refine go_iconst hc dL_law_1320 ci_2 ?_
  refine go_iadd hc dL_law_1321 ?_
  obtain ⟨hg8, h⟩ := ogd_some h
  refine go_scr hc hX0 hg8 dL_law_1322 ?_
  obtain ⟨r9, σ10, hf11, h⟩ := obi_some h
  obtain ⟨hg12, h⟩ := ogd_some h
  refine go_callVi hc ho cmX10_fewest mlL_168 dL_law_1323 ok_81 (As := [.int (xs (l4 + (1 : Int32)).toNatClampNeg), .int (xs (l4 + (2 : Int32)).toNatClampNeg)]) (rest := [.int r3]) (rX10_fewest (N := 21) hf11 (Nat.le_refl _)) rfl (Nat.le_trans (Nat.le_of_ble_eq_true rfl) hN) rfl (Nat.le_of_ble_eq_true rfl) (Or.inr (of_decide_eq_true hg12)) ?_
  refine go_icmp_eq (tgt := 1876) hc dL_law_1326 rfl (fun hh => ?_) (fun hh => ?_)
  · rw [if_pos hh] at h
    refine go_iinc hc (lv1 := [.ref 100, .ref 0, .ref 81, .ref 94, .int (l4 + 6), .null, .null]) dL_law_1876 rfl ci_6 hL (by decide) (fun _ _ e => by cases e; rfl) rfl ?_
    refine go_goto (tgt := 23) hc dL_law_1879 rfl ?_
    exact hrc23 (l4 + 6) _ h
  · rw [if_neg hh] at h
    refine go_iconst hc dL_law_1329 ci_0 ?_
    exact (ol01 h).elim
def fL_law_b1281 (xs : Nat → Int32) (L : Nat) (rc23 : Int32 → OM → Option (Int32 × OM)) (l4 : Int32) (σ : OM) : Option (Int32 × OM) :=
  obi (fX9_tells σ) (fun r1 σ2 =>
  ogd (decide (mR σ2 96 0 = mR σ 96 0)) (
  obi (fX10_tells σ2) (fun r5 σ6 =>
  ogd (decide (mR σ6 96 0 = mR σ2 96 0)) (
  if r1 = r5 then (
   rc23 (l4 + 6) σ6)
  else (some ((0 : Int32), σ6))))))
set_option maxRecDepth 100000 in
set_option maxHeartbeats 4000000 in
theorem rL_law_b1281 {K : OK} (hc : kcc K = code) (ho : kow K = RL) (hL : knL K = 7) (hN : 1300 ≤ kN K) {xs : Nat → Int32} {L : Nat} (hX0 : oLx K L xs) (hlx : oLz K) {σ0 : OM} {rc23 : Int32 → OM → Option (Int32 × OM)} (hrc23 : ∀ (l4 : Int32) (σ : OM), rc23 l4 σ = some ((1 : Int32), σ0) → Go K 23 [.ref 100, .ref 0, .ref 81, .ref 94, .int l4, .null, .null] [] σ) {l4 : Int32} {σ : OM} (h : fL_law_b1281 xs L rc23 l4 σ = some ((1 : Int32), σ0)) : Go K 1281 [.ref 100, .ref 0, .ref 81, .ref 94, .int l4, .null, .null] [] σ := by
  unfold fL_law_b1281 at h
  refine go_aload_n hc dL_law_1281 rfl rfl ?_
  obtain ⟨r1, σ2, hf3, h⟩ := obi_some h
  obtain ⟨hg4, h⟩ := ogd_some h
  refine go_callVi hc ho cmX9_tells mlL_161 dL_law_1282 ok_0 (As := []) (rest := []) (rX9_tells (N := 5) hf3 (Nat.le_refl _)) rfl (Nat.le_trans (Nat.le_of_ble_eq_true rfl) hN) rfl (Nat.le_of_ble_eq_true rfl) (Or.inr (of_decide_eq_true hg4)) ?_
  refine go_aload_n hc dL_law_1285 rfl rfl ?_
  obtain ⟨r5, σ6, hf7, h⟩ := obi_some h
  obtain ⟨hg8, h⟩ := ogd_some h
  refine go_callVi hc ho cmX10_tells mlL_164 dL_law_1286 ok_81 (As := []) (rest := [.int r1]) (rX10_tells (N := 6) hf7 (Nat.le_refl _)) rfl (Nat.le_trans (Nat.le_of_ble_eq_true rfl) hN) rfl (Nat.le_of_ble_eq_true rfl) (Or.inr (of_decide_eq_true hg8)) ?_
  refine go_icmp_eq (tgt := 1876) hc dL_law_1289 rfl (fun hh => ?_) (fun hh => ?_)
  · rw [if_pos hh] at h
    refine go_iinc hc (lv1 := [.ref 100, .ref 0, .ref 81, .ref 94, .int (l4 + 6), .null, .null]) dL_law_1876 rfl ci_6 hL (by decide) (fun _ _ e => by cases e; rfl) rfl ?_
    refine go_goto (tgt := 23) hc dL_law_1879 rfl ?_
    exact hrc23 (l4 + 6) _ h
  · rw [if_neg hh] at h
    refine go_iconst hc dL_law_1292 ci_0 ?_
    exact (ol01 h).elim
def fL_law_b1215 (xs : Nat → Int32) (L : Nat) (rc23 : Int32 → OM → Option (Int32 × OM)) (l4 : Int32) (σ : OM) : Option (Int32 × OM) :=
  ogd (oin (l4 + (1 : Int32)) L) (
  ogd (oin (l4 + (2 : Int32)) L) (
  ogd (oin (l4 + (3 : Int32)) L) (
  if (xs (l4 + (3 : Int32)).toNatClampNeg) = 0 then (
   obi (fX9_leftMean (xs (l4 + (1 : Int32)).toNatClampNeg) (xs (l4 + (2 : Int32)).toNatClampNeg) (0 : Int32) σ) (fun r4 σ5 =>
   ogd (decide (mR σ5 96 0 = mR σ 96 0)) (
   ogd (oin (l4 + (1 : Int32)) L) (
   ogd (oin (l4 + (2 : Int32)) L) (
   ogd (oin (l4 + (3 : Int32)) L) (
   if (xs (l4 + (3 : Int32)).toNatClampNeg) = 0 then (
    obi (fX10_leftMean (xs (l4 + (1 : Int32)).toNatClampNeg) (xs (l4 + (2 : Int32)).toNatClampNeg) (0 : Int32) σ5) (fun r11 σ12 =>
    ogd (decide (mR σ12 96 0 = mR σ5 96 0)) (
    if (lg_cmp r4 r11) = 0 then (
     rc23 (l4 + 6) σ12)
    else (some ((0 : Int32), σ12)))))
   else (obi (fX10_leftMean (xs (l4 + (1 : Int32)).toNatClampNeg) (xs (l4 + (2 : Int32)).toNatClampNeg) (1 : Int32) σ5) (fun r15 σ16 =>
   ogd (decide (mR σ16 96 0 = mR σ5 96 0)) (
   if (lg_cmp r4 r15) = 0 then (
    rc23 (l4 + 6) σ16)
   else (some ((0 : Int32), σ16)))))))))))
  else (obi (fX9_leftMean (xs (l4 + (1 : Int32)).toNatClampNeg) (xs (l4 + (2 : Int32)).toNatClampNeg) (1 : Int32) σ) (fun r19 σ20 =>
  ogd (decide (mR σ20 96 0 = mR σ 96 0)) (
  ogd (oin (l4 + (1 : Int32)) L) (
  ogd (oin (l4 + (2 : Int32)) L) (
  ogd (oin (l4 + (3 : Int32)) L) (
  if (xs (l4 + (3 : Int32)).toNatClampNeg) = 0 then (
   obi (fX10_leftMean (xs (l4 + (1 : Int32)).toNatClampNeg) (xs (l4 + (2 : Int32)).toNatClampNeg) (0 : Int32) σ20) (fun r26 σ27 =>
   ogd (decide (mR σ27 96 0 = mR σ20 96 0)) (
   if (lg_cmp r19 r26) = 0 then (
    rc23 (l4 + 6) σ27)
   else (some ((0 : Int32), σ27)))))
  else (obi (fX10_leftMean (xs (l4 + (1 : Int32)).toNatClampNeg) (xs (l4 + (2 : Int32)).toNatClampNeg) (1 : Int32) σ20) (fun r30 σ31 =>
  ogd (decide (mR σ31 96 0 = mR σ20 96 0)) (
  if (lg_cmp r19 r30) = 0 then (
   rc23 (l4 + 6) σ31)
  else (some ((0 : Int32), σ31))))))))))))))
set_option maxRecDepth 100000 in
set_option maxHeartbeats 4000000 in
theorem rL_law_b1215 {K : OK} (hc : kcc K = code) (ho : kow K = RL) (hL : knL K = 7) (hN : 1300 ≤ kN K) {xs : Nat → Int32} {L : Nat} (hX0 : oLx K L xs) (hlx : oLz K) {σ0 : OM} {rc23 : Int32 → OM → Option (Int32 × OM)} (hrc23 : ∀ (l4 : Int32) (σ : OM), rc23 l4 σ = some ((1 : Int32), σ0) → Go K 23 [.ref 100, .ref 0, .ref 81, .ref 94, .int l4, .null, .null] [] σ) {l4 : Int32} {σ : OM} (h : fL_law_b1215 xs L rc23 l4 σ = some ((1 : Int32), σ0)) : Go K 1215 [.ref 100, .ref 0, .ref 81, .ref 94, .int l4, .null, .null] [] σ := by
  unfold fL_law_b1215 at h
  refine go_aload_n hc dL_law_1215 rfl rfl ?_
  refine go_aload_n hc dL_law_1216 rfl rfl ?_
  refine go_iload hc dL_law_1217 rfl ?_
  refine go_iconst hc dL_law_1219 ci_1 ?_
  refine go_iadd hc dL_law_1220 ?_
  obtain ⟨hg1, h⟩ := ogd_some h
  refine go_scr hc hX0 hg1 dL_law_1221 ?_
  refine go_aload_n hc dL_law_1222 rfl rfl ?_
  refine go_iload hc dL_law_1223 rfl ?_
  refine go_iconst hc dL_law_1225 ci_2 ?_
  refine go_iadd hc dL_law_1226 ?_
  obtain ⟨hg2, h⟩ := ogd_some h
  refine go_scr hc hX0 hg2 dL_law_1227 ?_
  refine go_aload_n hc dL_law_1228 rfl rfl ?_
  refine go_iload hc dL_law_1229 rfl ?_
  refine go_iconst hc dL_law_1231 ci_3 ?_
  refine go_iadd hc dL_law_1232 ?_
  obtain ⟨hg3, h⟩ := ogd_some h
  refine go_scr hc hX0 hg3 dL_law_1233 ?_
  refine go_if_eq (tgt := 1241) hc dL_law_1234 rfl (fun hh => ?_) (fun hh => ?_)
  · rw [if_pos hh] at h
    refine go_iconst hc dL_law_1241 ci_0 ?_
    obtain ⟨r4, σ5, hf6, h⟩ := obi_some h
    obtain ⟨hg7, h⟩ := ogd_some h
    refine go_callVl hc ho cmX9_leftMean mlL_157 dL_law_1242 ok_0 (As := [.int (xs (l4 + (1 : Int32)).toNatClampNeg), .int (xs (l4 + (2 : Int32)).toNatClampNeg), .int (0 : Int32)]) (rest := []) (rX9_leftMean (N := 5) hf6 (Nat.le_refl _)) rfl (Nat.le_trans (Nat.le_of_ble_eq_true rfl) hN) rfl (Nat.le_of_ble_eq_true rfl) (Or.inr (of_decide_eq_true hg7)) ?_
    refine go_aload_n hc dL_law_1245 rfl rfl ?_
    refine go_aload_n hc dL_law_1246 rfl rfl ?_
    refine go_iload hc dL_law_1247 rfl ?_
    refine go_iconst hc dL_law_1249 ci_1 ?_
    refine go_iadd hc dL_law_1250 ?_
    obtain ⟨hg8, h⟩ := ogd_some h
    refine go_scr hc hX0 hg8 dL_law_1251 ?_
    refine go_aload_n hc dL_law_1252 rfl rfl ?_
    refine go_iload hc dL_law_1253 rfl ?_
    refine go_iconst hc dL_law_1255 ci_2 ?_
    refine go_iadd hc dL_law_1256 ?_
    obtain ⟨hg9, h⟩ := ogd_some h
    refine go_scr hc hX0 hg9 dL_law_1257 ?_
    refine go_aload_n hc dL_law_1258 rfl rfl ?_
    refine go_iload hc dL_law_1259 rfl ?_
    refine go_iconst hc dL_law_1261 ci_3 ?_
    refine go_iadd hc dL_law_1262 ?_
    obtain ⟨hg10, h⟩ := ogd_some h
    refine go_scr hc hX0 hg10 dL_law_1263 ?_
    refine go_if_eq (tgt := 1271) hc dL_law_1264 rfl (fun hh => ?_) (fun hh => ?_)
    · rw [if_pos hh] at h
      refine go_iconst hc dL_law_1271 ci_0 ?_
      obtain ⟨r11, σ12, hf13, h⟩ := obi_some h
      obtain ⟨hg14, h⟩ := ogd_some h
      refine go_callVl hc ho cmX10_leftMean mlL_160 dL_law_1272 ok_81 (As := [.int (xs (l4 + (1 : Int32)).toNatClampNeg), .int (xs (l4 + (2 : Int32)).toNatClampNeg), .int (0 : Int32)]) (rest := [.long r4]) (rX10_leftMean (N := 6) hf13 (Nat.le_refl _)) rfl (Nat.le_trans (Nat.le_of_ble_eq_true rfl) hN) rfl (Nat.le_of_ble_eq_true rfl) (Or.inr (of_decide_eq_true hg14)) ?_
      refine go_lcmp hc dL_law_1275 ?_
      refine go_if_eq (tgt := 1876) hc dL_law_1276 rfl (fun hh => ?_) (fun hh => ?_)
      · rw [if_pos hh] at h
        refine go_iinc hc (lv1 := [.ref 100, .ref 0, .ref 81, .ref 94, .int (l4 + 6), .null, .null]) dL_law_1876 rfl ci_6 hL (by decide) (fun _ _ e => by cases e; rfl) rfl ?_
        refine go_goto (tgt := 23) hc dL_law_1879 rfl ?_
        exact hrc23 (l4 + 6) _ h
      · rw [if_neg hh] at h
        refine go_iconst hc dL_law_1279 ci_0 ?_
        exact (ol01 h).elim
    · rw [if_neg hh] at h
      refine go_iconst hc dL_law_1267 ci_1 ?_
      refine go_goto (tgt := 1272) hc dL_law_1268 rfl ?_
      obtain ⟨r15, σ16, hf17, h⟩ := obi_some h
      obtain ⟨hg18, h⟩ := ogd_some h
      refine go_callVl hc ho cmX10_leftMean mlL_160 dL_law_1272 ok_81 (As := [.int (xs (l4 + (1 : Int32)).toNatClampNeg), .int (xs (l4 + (2 : Int32)).toNatClampNeg), .int (1 : Int32)]) (rest := [.long r4]) (rX10_leftMean (N := 6) hf17 (Nat.le_refl _)) rfl (Nat.le_trans (Nat.le_of_ble_eq_true rfl) hN) rfl (Nat.le_of_ble_eq_true rfl) (Or.inr (of_decide_eq_true hg18)) ?_
      refine go_lcmp hc dL_law_1275 ?_
      refine go_if_eq (tgt := 1876) hc dL_law_1276 rfl (fun hh => ?_) (fun hh => ?_)
      · rw [if_pos hh] at h
        refine go_iinc hc (lv1 := [.ref 100, .ref 0, .ref 81, .ref 94, .int (l4 + 6), .null, .null]) dL_law_1876 rfl ci_6 hL (by decide) (fun _ _ e => by cases e; rfl) rfl ?_
        refine go_goto (tgt := 23) hc dL_law_1879 rfl ?_
        exact hrc23 (l4 + 6) _ h
      · rw [if_neg hh] at h
        refine go_iconst hc dL_law_1279 ci_0 ?_
        exact (ol01 h).elim
  · rw [if_neg hh] at h
    refine go_iconst hc dL_law_1237 ci_1 ?_
    refine go_goto (tgt := 1242) hc dL_law_1238 rfl ?_
    obtain ⟨r19, σ20, hf21, h⟩ := obi_some h
    obtain ⟨hg22, h⟩ := ogd_some h
    refine go_callVl hc ho cmX9_leftMean mlL_157 dL_law_1242 ok_0 (As := [.int (xs (l4 + (1 : Int32)).toNatClampNeg), .int (xs (l4 + (2 : Int32)).toNatClampNeg), .int (1 : Int32)]) (rest := []) (rX9_leftMean (N := 5) hf21 (Nat.le_refl _)) rfl (Nat.le_trans (Nat.le_of_ble_eq_true rfl) hN) rfl (Nat.le_of_ble_eq_true rfl) (Or.inr (of_decide_eq_true hg22)) ?_
    refine go_aload_n hc dL_law_1245 rfl rfl ?_
    refine go_aload_n hc dL_law_1246 rfl rfl ?_
    refine go_iload hc dL_law_1247 rfl ?_
    refine go_iconst hc dL_law_1249 ci_1 ?_
    refine go_iadd hc dL_law_1250 ?_
    obtain ⟨hg23, h⟩ := ogd_some h
    refine go_scr hc hX0 hg23 dL_law_1251 ?_
    refine go_aload_n hc dL_law_1252 rfl rfl ?_
    refine go_iload hc dL_law_1253 rfl ?_
    refine go_iconst hc dL_law_1255 ci_2 ?_
    refine go_iadd hc dL_law_1256 ?_
    obtain ⟨hg24, h⟩ := ogd_some h
    refine go_scr hc hX0 hg24 dL_law_1257 ?_
    refine go_aload_n hc dL_law_1258 rfl rfl ?_
    refine go_iload hc dL_law_1259 rfl ?_
    refine go_iconst hc dL_law_1261 ci_3 ?_
    refine go_iadd hc dL_law_1262 ?_
    obtain ⟨hg25, h⟩ := ogd_some h
    refine go_scr hc hX0 hg25 dL_law_1263 ?_
    refine go_if_eq (tgt := 1271) hc dL_law_1264 rfl (fun hh => ?_) (fun hh => ?_)
    · rw [if_pos hh] at h
      refine go_iconst hc dL_law_1271 ci_0 ?_
      obtain ⟨r26, σ27, hf28, h⟩ := obi_some h
      obtain ⟨hg29, h⟩ := ogd_some h
      refine go_callVl hc ho cmX10_leftMean mlL_160 dL_law_1272 ok_81 (As := [.int (xs (l4 + (1 : Int32)).toNatClampNeg), .int (xs (l4 + (2 : Int32)).toNatClampNeg), .int (0 : Int32)]) (rest := [.long r19]) (rX10_leftMean (N := 6) hf28 (Nat.le_refl _)) rfl (Nat.le_trans (Nat.le_of_ble_eq_true rfl) hN) rfl (Nat.le_of_ble_eq_true rfl) (Or.inr (of_decide_eq_true hg29)) ?_
      refine go_lcmp hc dL_law_1275 ?_
      refine go_if_eq (tgt := 1876) hc dL_law_1276 rfl (fun hh => ?_) (fun hh => ?_)
      · rw [if_pos hh] at h
        refine go_iinc hc (lv1 := [.ref 100, .ref 0, .ref 81, .ref 94, .int (l4 + 6), .null, .null]) dL_law_1876 rfl ci_6 hL (by decide) (fun _ _ e => by cases e; rfl) rfl ?_
        refine go_goto (tgt := 23) hc dL_law_1879 rfl ?_
        exact hrc23 (l4 + 6) _ h
      · rw [if_neg hh] at h
        refine go_iconst hc dL_law_1279 ci_0 ?_
        exact (ol01 h).elim
    · rw [if_neg hh] at h
      refine go_iconst hc dL_law_1267 ci_1 ?_
      refine go_goto (tgt := 1272) hc dL_law_1268 rfl ?_
      obtain ⟨r30, σ31, hf32, h⟩ := obi_some h
      obtain ⟨hg33, h⟩ := ogd_some h
      refine go_callVl hc ho cmX10_leftMean mlL_160 dL_law_1272 ok_81 (As := [.int (xs (l4 + (1 : Int32)).toNatClampNeg), .int (xs (l4 + (2 : Int32)).toNatClampNeg), .int (1 : Int32)]) (rest := [.long r19]) (rX10_leftMean (N := 6) hf32 (Nat.le_refl _)) rfl (Nat.le_trans (Nat.le_of_ble_eq_true rfl) hN) rfl (Nat.le_of_ble_eq_true rfl) (Or.inr (of_decide_eq_true hg33)) ?_
      refine go_lcmp hc dL_law_1275 ?_
      refine go_if_eq (tgt := 1876) hc dL_law_1276 rfl (fun hh => ?_) (fun hh => ?_)
      · rw [if_pos hh] at h
        refine go_iinc hc (lv1 := [.ref 100, .ref 0, .ref 81, .ref 94, .int (l4 + 6), .null, .null]) dL_law_1876 rfl ci_6 hL (by decide) (fun _ _ e => by cases e; rfl) rfl ?_
        refine go_goto (tgt := 23) hc dL_law_1879 rfl ?_
        exact hrc23 (l4 + 6) _ h
      · rw [if_neg hh] at h
        refine go_iconst hc dL_law_1279 ci_0 ?_
        exact (ol01 h).elim
def fL_law_b1190 (xs : Nat → Int32) (L : Nat) (rc23 : Int32 → OM → Option (Int32 × OM)) (l4 : Int32) (σ : OM) : Option (Int32 × OM) :=
  ogd (oin (l4 + (1 : Int32)) L) (
  obi (fX9_bestLeft (xs (l4 + (1 : Int32)).toNatClampNeg) σ) (fun r2 σ3 =>
  ogd (decide (mR σ3 96 0 = mR σ 96 0)) (
  ogd (oin (l4 + (1 : Int32)) L) (
  obi (fX10_bestLeft (xs (l4 + (1 : Int32)).toNatClampNeg) σ3) (fun r7 σ8 =>
  ogd (decide (mR σ8 96 0 = mR σ3 96 0)) (
  if r2 = r7 then (
   rc23 (l4 + 6) σ8)
  else (some ((0 : Int32), σ8))))))))
set_option maxRecDepth 100000 in
set_option maxHeartbeats 4000000 in
theorem rL_law_b1190 {K : OK} (hc : kcc K = code) (ho : kow K = RL) (hL : knL K = 7) (hN : 1300 ≤ kN K) {xs : Nat → Int32} {L : Nat} (hX0 : oLx K L xs) (hlx : oLz K) {σ0 : OM} {rc23 : Int32 → OM → Option (Int32 × OM)} (hrc23 : ∀ (l4 : Int32) (σ : OM), rc23 l4 σ = some ((1 : Int32), σ0) → Go K 23 [.ref 100, .ref 0, .ref 81, .ref 94, .int l4, .null, .null] [] σ) {l4 : Int32} {σ : OM} (h : fL_law_b1190 xs L rc23 l4 σ = some ((1 : Int32), σ0)) : Go K 1190 [.ref 100, .ref 0, .ref 81, .ref 94, .int l4, .null, .null] [] σ := by
  unfold fL_law_b1190 at h
  refine go_aload_n hc dL_law_1190 rfl rfl ?_
  refine go_aload_n hc dL_law_1191 rfl rfl ?_
  refine go_iload hc dL_law_1192 rfl ?_
  refine go_iconst hc dL_law_1194 ci_1 ?_
  refine go_iadd hc dL_law_1195 ?_
  obtain ⟨hg1, h⟩ := ogd_some h
  refine go_scr hc hX0 hg1 dL_law_1196 ?_
  obtain ⟨r2, σ3, hf4, h⟩ := obi_some h
  obtain ⟨hg5, h⟩ := ogd_some h
  refine go_callVi hc ho cmX9_bestLeft mlL_153 dL_law_1197 ok_0 (As := [.int (xs (l4 + (1 : Int32)).toNatClampNeg)]) (rest := []) (rX9_bestLeft (N := 5) hf4 (Nat.le_refl _)) rfl (Nat.le_trans (Nat.le_of_ble_eq_true rfl) hN) rfl (Nat.le_of_ble_eq_true rfl) (Or.inr (of_decide_eq_true hg5)) ?_
  refine go_aload_n hc dL_law_1200 rfl rfl ?_
  refine go_aload_n hc dL_law_1201 rfl rfl ?_
  refine go_iload hc dL_law_1202 rfl ?_
  refine go_iconst hc dL_law_1204 ci_1 ?_
  refine go_iadd hc dL_law_1205 ?_
  obtain ⟨hg6, h⟩ := ogd_some h
  refine go_scr hc hX0 hg6 dL_law_1206 ?_
  obtain ⟨r7, σ8, hf9, h⟩ := obi_some h
  obtain ⟨hg10, h⟩ := ogd_some h
  refine go_callVi hc ho cmX10_bestLeft mlL_156 dL_law_1207 ok_81 (As := [.int (xs (l4 + (1 : Int32)).toNatClampNeg)]) (rest := [.int r2]) (rX10_bestLeft (N := 6) hf9 (Nat.le_refl _)) rfl (Nat.le_trans (Nat.le_of_ble_eq_true rfl) hN) rfl (Nat.le_of_ble_eq_true rfl) (Or.inr (of_decide_eq_true hg10)) ?_
  refine go_icmp_eq (tgt := 1876) hc dL_law_1210 rfl (fun hh => ?_) (fun hh => ?_)
  · rw [if_pos hh] at h
    refine go_iinc hc (lv1 := [.ref 100, .ref 0, .ref 81, .ref 94, .int (l4 + 6), .null, .null]) dL_law_1876 rfl ci_6 hL (by decide) (fun _ _ e => by cases e; rfl) rfl ?_
    refine go_goto (tgt := 23) hc dL_law_1879 rfl ?_
    exact hrc23 (l4 + 6) _ h
  · rw [if_neg hh] at h
    refine go_iconst hc dL_law_1213 ci_0 ?_
    exact (ol01 h).elim
def fL_law_b1165 (xs : Nat → Int32) (L : Nat) (rc23 : Int32 → OM → Option (Int32 × OM)) (l4 : Int32) (σ : OM) : Option (Int32 × OM) :=
  ogd (oin (l4 + (1 : Int32)) L) (
  obi (fX9_best (xs (l4 + (1 : Int32)).toNatClampNeg) σ) (fun r2 σ3 =>
  ogd (decide (mR σ3 96 0 = mR σ 96 0)) (
  ogd (oin (l4 + (1 : Int32)) L) (
  obi (fX10_best (xs (l4 + (1 : Int32)).toNatClampNeg) σ3) (fun r7 σ8 =>
  ogd (decide (mR σ8 96 0 = mR σ3 96 0)) (
  if r2 = r7 then (
   rc23 (l4 + 6) σ8)
  else (some ((0 : Int32), σ8))))))))
set_option maxRecDepth 100000 in
set_option maxHeartbeats 4000000 in
theorem rL_law_b1165 {K : OK} (hc : kcc K = code) (ho : kow K = RL) (hL : knL K = 7) (hN : 1300 ≤ kN K) {xs : Nat → Int32} {L : Nat} (hX0 : oLx K L xs) (hlx : oLz K) {σ0 : OM} {rc23 : Int32 → OM → Option (Int32 × OM)} (hrc23 : ∀ (l4 : Int32) (σ : OM), rc23 l4 σ = some ((1 : Int32), σ0) → Go K 23 [.ref 100, .ref 0, .ref 81, .ref 94, .int l4, .null, .null] [] σ) {l4 : Int32} {σ : OM} (h : fL_law_b1165 xs L rc23 l4 σ = some ((1 : Int32), σ0)) : Go K 1165 [.ref 100, .ref 0, .ref 81, .ref 94, .int l4, .null, .null] [] σ := by
  unfold fL_law_b1165 at h
  refine go_aload_n hc dL_law_1165 rfl rfl ?_
  refine go_aload_n hc dL_law_1166 rfl rfl ?_
  refine go_iload hc dL_law_1167 rfl ?_
  refine go_iconst hc dL_law_1169 ci_1 ?_
  refine go_iadd hc dL_law_1170 ?_
  obtain ⟨hg1, h⟩ := ogd_some h
  refine go_scr hc hX0 hg1 dL_law_1171 ?_
  obtain ⟨r2, σ3, hf4, h⟩ := obi_some h
  obtain ⟨hg5, h⟩ := ogd_some h
  refine go_callVi hc ho cmX9_best mlL_149 dL_law_1172 ok_0 (As := [.int (xs (l4 + (1 : Int32)).toNatClampNeg)]) (rest := []) (rX9_best (N := 5) hf4 (Nat.le_refl _)) rfl (Nat.le_trans (Nat.le_of_ble_eq_true rfl) hN) rfl (Nat.le_of_ble_eq_true rfl) (Or.inr (of_decide_eq_true hg5)) ?_
  refine go_aload_n hc dL_law_1175 rfl rfl ?_
  refine go_aload_n hc dL_law_1176 rfl rfl ?_
  refine go_iload hc dL_law_1177 rfl ?_
  refine go_iconst hc dL_law_1179 ci_1 ?_
  refine go_iadd hc dL_law_1180 ?_
  obtain ⟨hg6, h⟩ := ogd_some h
  refine go_scr hc hX0 hg6 dL_law_1181 ?_
  obtain ⟨r7, σ8, hf9, h⟩ := obi_some h
  obtain ⟨hg10, h⟩ := ogd_some h
  refine go_callVi hc ho cmX10_best mlL_152 dL_law_1182 ok_81 (As := [.int (xs (l4 + (1 : Int32)).toNatClampNeg)]) (rest := [.int r2]) (rX10_best (N := 6) hf9 (Nat.le_refl _)) rfl (Nat.le_trans (Nat.le_of_ble_eq_true rfl) hN) rfl (Nat.le_of_ble_eq_true rfl) (Or.inr (of_decide_eq_true hg10)) ?_
  refine go_icmp_eq (tgt := 1876) hc dL_law_1185 rfl (fun hh => ?_) (fun hh => ?_)
  · rw [if_pos hh] at h
    refine go_iinc hc (lv1 := [.ref 100, .ref 0, .ref 81, .ref 94, .int (l4 + 6), .null, .null]) dL_law_1876 rfl ci_6 hL (by decide) (fun _ _ e => by cases e; rfl) rfl ?_
    refine go_goto (tgt := 23) hc dL_law_1879 rfl ?_
    exact hrc23 (l4 + 6) _ h
  · rw [if_neg hh] at h
    refine go_iconst hc dL_law_1188 ci_0 ?_
    exact (ol01 h).elim
def fL_law_b1140 (xs : Nat → Int32) (L : Nat) (rc23 : Int32 → OM → Option (Int32 × OM)) (l4 : Int32) (σ : OM) : Option (Int32 × OM) :=
  ogd (oin (l4 + (1 : Int32)) L) (
  obi (fX9_surely (xs (l4 + (1 : Int32)).toNatClampNeg) σ) (fun r2 σ3 =>
  ogd (decide (mR σ3 96 0 = mR σ 96 0)) (
  ogd (oin (l4 + (1 : Int32)) L) (
  obi (fX10_surely (xs (l4 + (1 : Int32)).toNatClampNeg) σ3) (fun r7 σ8 =>
  ogd (decide (mR σ8 96 0 = mR σ3 96 0)) (
  if r2 = r7 then (
   rc23 (l4 + 6) σ8)
  else (some ((0 : Int32), σ8))))))))
set_option maxRecDepth 100000 in
set_option maxHeartbeats 4000000 in
theorem rL_law_b1140 {K : OK} (hc : kcc K = code) (ho : kow K = RL) (hL : knL K = 7) (hN : 1300 ≤ kN K) {xs : Nat → Int32} {L : Nat} (hX0 : oLx K L xs) (hlx : oLz K) {σ0 : OM} {rc23 : Int32 → OM → Option (Int32 × OM)} (hrc23 : ∀ (l4 : Int32) (σ : OM), rc23 l4 σ = some ((1 : Int32), σ0) → Go K 23 [.ref 100, .ref 0, .ref 81, .ref 94, .int l4, .null, .null] [] σ) {l4 : Int32} {σ : OM} (h : fL_law_b1140 xs L rc23 l4 σ = some ((1 : Int32), σ0)) : Go K 1140 [.ref 100, .ref 0, .ref 81, .ref 94, .int l4, .null, .null] [] σ := by
  unfold fL_law_b1140 at h
  refine go_aload_n hc dL_law_1140 rfl rfl ?_
  refine go_aload_n hc dL_law_1141 rfl rfl ?_
  refine go_iload hc dL_law_1142 rfl ?_
  refine go_iconst hc dL_law_1144 ci_1 ?_
  refine go_iadd hc dL_law_1145 ?_
  obtain ⟨hg1, h⟩ := ogd_some h
  refine go_scr hc hX0 hg1 dL_law_1146 ?_
  obtain ⟨r2, σ3, hf4, h⟩ := obi_some h
  obtain ⟨hg5, h⟩ := ogd_some h
  refine go_callVi hc ho cmX9_surely mlL_145 dL_law_1147 ok_0 (As := [.int (xs (l4 + (1 : Int32)).toNatClampNeg)]) (rest := []) (rX9_surely (N := 5) hf4 (Nat.le_refl _)) rfl (Nat.le_trans (Nat.le_of_ble_eq_true rfl) hN) rfl (Nat.le_of_ble_eq_true rfl) (Or.inr (of_decide_eq_true hg5)) ?_
  refine go_aload_n hc dL_law_1150 rfl rfl ?_
  refine go_aload_n hc dL_law_1151 rfl rfl ?_
  refine go_iload hc dL_law_1152 rfl ?_
  refine go_iconst hc dL_law_1154 ci_1 ?_
  refine go_iadd hc dL_law_1155 ?_
  obtain ⟨hg6, h⟩ := ogd_some h
  refine go_scr hc hX0 hg6 dL_law_1156 ?_
  obtain ⟨r7, σ8, hf9, h⟩ := obi_some h
  obtain ⟨hg10, h⟩ := ogd_some h
  refine go_callVi hc ho cmX10_surely mlL_148 dL_law_1157 ok_81 (As := [.int (xs (l4 + (1 : Int32)).toNatClampNeg)]) (rest := [.int r2]) (rX10_surely (N := 6) hf9 (Nat.le_refl _)) rfl (Nat.le_trans (Nat.le_of_ble_eq_true rfl) hN) rfl (Nat.le_of_ble_eq_true rfl) (Or.inr (of_decide_eq_true hg10)) ?_
  refine go_icmp_eq (tgt := 1876) hc dL_law_1160 rfl (fun hh => ?_) (fun hh => ?_)
  · rw [if_pos hh] at h
    refine go_iinc hc (lv1 := [.ref 100, .ref 0, .ref 81, .ref 94, .int (l4 + 6), .null, .null]) dL_law_1876 rfl ci_6 hL (by decide) (fun _ _ e => by cases e; rfl) rfl ?_
    refine go_goto (tgt := 23) hc dL_law_1879 rfl ?_
    exact hrc23 (l4 + 6) _ h
  · rw [if_neg hh] at h
    refine go_iconst hc dL_law_1163 ci_0 ?_
    exact (ol01 h).elim
def fL_law_b1115 (xs : Nat → Int32) (L : Nat) (rc23 : Int32 → OM → Option (Int32 × OM)) (l4 : Int32) (σ : OM) : Option (Int32 × OM) :=
  ogd (oin (l4 + (1 : Int32)) L) (
  obi (fX9_could (xs (l4 + (1 : Int32)).toNatClampNeg) σ) (fun r2 σ3 =>
  ogd (decide (mR σ3 96 0 = mR σ 96 0)) (
  ogd (oin (l4 + (1 : Int32)) L) (
  obi (fX10_could (xs (l4 + (1 : Int32)).toNatClampNeg) σ3) (fun r7 σ8 =>
  ogd (decide (mR σ8 96 0 = mR σ3 96 0)) (
  if r2 = r7 then (
   rc23 (l4 + 6) σ8)
  else (some ((0 : Int32), σ8))))))))
set_option maxRecDepth 100000 in
set_option maxHeartbeats 4000000 in
theorem rL_law_b1115 {K : OK} (hc : kcc K = code) (ho : kow K = RL) (hL : knL K = 7) (hN : 1300 ≤ kN K) {xs : Nat → Int32} {L : Nat} (hX0 : oLx K L xs) (hlx : oLz K) {σ0 : OM} {rc23 : Int32 → OM → Option (Int32 × OM)} (hrc23 : ∀ (l4 : Int32) (σ : OM), rc23 l4 σ = some ((1 : Int32), σ0) → Go K 23 [.ref 100, .ref 0, .ref 81, .ref 94, .int l4, .null, .null] [] σ) {l4 : Int32} {σ : OM} (h : fL_law_b1115 xs L rc23 l4 σ = some ((1 : Int32), σ0)) : Go K 1115 [.ref 100, .ref 0, .ref 81, .ref 94, .int l4, .null, .null] [] σ := by
  unfold fL_law_b1115 at h
  refine go_aload_n hc dL_law_1115 rfl rfl ?_
  refine go_aload_n hc dL_law_1116 rfl rfl ?_
  refine go_iload hc dL_law_1117 rfl ?_
  refine go_iconst hc dL_law_1119 ci_1 ?_
  refine go_iadd hc dL_law_1120 ?_
  obtain ⟨hg1, h⟩ := ogd_some h
  refine go_scr hc hX0 hg1 dL_law_1121 ?_
  obtain ⟨r2, σ3, hf4, h⟩ := obi_some h
  obtain ⟨hg5, h⟩ := ogd_some h
  refine go_callVi hc ho cmX9_could mlL_141 dL_law_1122 ok_0 (As := [.int (xs (l4 + (1 : Int32)).toNatClampNeg)]) (rest := []) (rX9_could (N := 5) hf4 (Nat.le_refl _)) rfl (Nat.le_trans (Nat.le_of_ble_eq_true rfl) hN) rfl (Nat.le_of_ble_eq_true rfl) (Or.inr (of_decide_eq_true hg5)) ?_
  refine go_aload_n hc dL_law_1125 rfl rfl ?_
  refine go_aload_n hc dL_law_1126 rfl rfl ?_
  refine go_iload hc dL_law_1127 rfl ?_
  refine go_iconst hc dL_law_1129 ci_1 ?_
  refine go_iadd hc dL_law_1130 ?_
  obtain ⟨hg6, h⟩ := ogd_some h
  refine go_scr hc hX0 hg6 dL_law_1131 ?_
  obtain ⟨r7, σ8, hf9, h⟩ := obi_some h
  obtain ⟨hg10, h⟩ := ogd_some h
  refine go_callVi hc ho cmX10_could mlL_144 dL_law_1132 ok_81 (As := [.int (xs (l4 + (1 : Int32)).toNatClampNeg)]) (rest := [.int r2]) (rX10_could (N := 6) hf9 (Nat.le_refl _)) rfl (Nat.le_trans (Nat.le_of_ble_eq_true rfl) hN) rfl (Nat.le_of_ble_eq_true rfl) (Or.inr (of_decide_eq_true hg10)) ?_
  refine go_icmp_eq (tgt := 1876) hc dL_law_1135 rfl (fun hh => ?_) (fun hh => ?_)
  · rw [if_pos hh] at h
    refine go_iinc hc (lv1 := [.ref 100, .ref 0, .ref 81, .ref 94, .int (l4 + 6), .null, .null]) dL_law_1876 rfl ci_6 hL (by decide) (fun _ _ e => by cases e; rfl) rfl ?_
    refine go_goto (tgt := 23) hc dL_law_1879 rfl ?_
    exact hrc23 (l4 + 6) _ h
  · rw [if_neg hh] at h
    refine go_iconst hc dL_law_1138 ci_0 ?_
    exact (ol01 h).elim
def fL_law_b1090 (xs : Nat → Int32) (L : Nat) (rc23 : Int32 → OM → Option (Int32 × OM)) (l4 : Int32) (σ : OM) : Option (Int32 × OM) :=
  ogd (oin (l4 + (1 : Int32)) L) (
  obi (fX9_graves (xs (l4 + (1 : Int32)).toNatClampNeg) σ) (fun r2 σ3 =>
  ogd (decide (mR σ3 96 0 = mR σ 96 0)) (
  ogd (oin (l4 + (1 : Int32)) L) (
  obi (fX10_graves (xs (l4 + (1 : Int32)).toNatClampNeg) σ3) (fun r7 σ8 =>
  ogd (decide (mR σ8 96 0 = mR σ3 96 0)) (
  if r2 = r7 then (
   rc23 (l4 + 6) σ8)
  else (some ((0 : Int32), σ8))))))))
set_option maxRecDepth 100000 in
set_option maxHeartbeats 4000000 in
theorem rL_law_b1090 {K : OK} (hc : kcc K = code) (ho : kow K = RL) (hL : knL K = 7) (hN : 1300 ≤ kN K) {xs : Nat → Int32} {L : Nat} (hX0 : oLx K L xs) (hlx : oLz K) {σ0 : OM} {rc23 : Int32 → OM → Option (Int32 × OM)} (hrc23 : ∀ (l4 : Int32) (σ : OM), rc23 l4 σ = some ((1 : Int32), σ0) → Go K 23 [.ref 100, .ref 0, .ref 81, .ref 94, .int l4, .null, .null] [] σ) {l4 : Int32} {σ : OM} (h : fL_law_b1090 xs L rc23 l4 σ = some ((1 : Int32), σ0)) : Go K 1090 [.ref 100, .ref 0, .ref 81, .ref 94, .int l4, .null, .null] [] σ := by
  unfold fL_law_b1090 at h
  refine go_aload_n hc dL_law_1090 rfl rfl ?_
  refine go_aload_n hc dL_law_1091 rfl rfl ?_
  refine go_iload hc dL_law_1092 rfl ?_
  refine go_iconst hc dL_law_1094 ci_1 ?_
  refine go_iadd hc dL_law_1095 ?_
  obtain ⟨hg1, h⟩ := ogd_some h
  refine go_scr hc hX0 hg1 dL_law_1096 ?_
  obtain ⟨r2, σ3, hf4, h⟩ := obi_some h
  obtain ⟨hg5, h⟩ := ogd_some h
  refine go_callVi hc ho cmX9_graves mlL_137 dL_law_1097 ok_0 (As := [.int (xs (l4 + (1 : Int32)).toNatClampNeg)]) (rest := []) (rX9_graves (N := 1) hf4 (Nat.le_refl _)) rfl (Nat.le_trans (Nat.le_of_ble_eq_true rfl) hN) rfl (Nat.le_of_ble_eq_true rfl) (Or.inr (of_decide_eq_true hg5)) ?_
  refine go_aload_n hc dL_law_1100 rfl rfl ?_
  refine go_aload_n hc dL_law_1101 rfl rfl ?_
  refine go_iload hc dL_law_1102 rfl ?_
  refine go_iconst hc dL_law_1104 ci_1 ?_
  refine go_iadd hc dL_law_1105 ?_
  obtain ⟨hg6, h⟩ := ogd_some h
  refine go_scr hc hX0 hg6 dL_law_1106 ?_
  obtain ⟨r7, σ8, hf9, h⟩ := obi_some h
  obtain ⟨hg10, h⟩ := ogd_some h
  refine go_callVi hc ho cmX10_graves mlL_140 dL_law_1107 ok_81 (As := [.int (xs (l4 + (1 : Int32)).toNatClampNeg)]) (rest := [.int r2]) (rX10_graves (N := 2) hf9 (Nat.le_refl _)) rfl (Nat.le_trans (Nat.le_of_ble_eq_true rfl) hN) rfl (Nat.le_of_ble_eq_true rfl) (Or.inr (of_decide_eq_true hg10)) ?_
  refine go_icmp_eq (tgt := 1876) hc dL_law_1110 rfl (fun hh => ?_) (fun hh => ?_)
  · rw [if_pos hh] at h
    refine go_iinc hc (lv1 := [.ref 100, .ref 0, .ref 81, .ref 94, .int (l4 + 6), .null, .null]) dL_law_1876 rfl ci_6 hL (by decide) (fun _ _ e => by cases e; rfl) rfl ?_
    refine go_goto (tgt := 23) hc dL_law_1879 rfl ?_
    exact hrc23 (l4 + 6) _ h
  · rw [if_neg hh] at h
    refine go_iconst hc dL_law_1113 ci_0 ?_
    exact (ol01 h).elim
def fL_law_b1065 (xs : Nat → Int32) (L : Nat) (rc23 : Int32 → OM → Option (Int32 × OM)) (l4 : Int32) (σ : OM) : Option (Int32 × OM) :=
  ogd (oin (l4 + (1 : Int32)) L) (
  obi (fX9_takes (xs (l4 + (1 : Int32)).toNatClampNeg) σ) (fun r2 σ3 =>
  ogd (decide (mR σ3 96 0 = mR σ 96 0)) (
  ogd (oin (l4 + (1 : Int32)) L) (
  obi (fX10_takes (xs (l4 + (1 : Int32)).toNatClampNeg) σ3) (fun r7 σ8 =>
  ogd (decide (mR σ8 96 0 = mR σ3 96 0)) (
  if r2 = r7 then (
   rc23 (l4 + 6) σ8)
  else (some ((0 : Int32), σ8))))))))
set_option maxRecDepth 100000 in
set_option maxHeartbeats 4000000 in
theorem rL_law_b1065 {K : OK} (hc : kcc K = code) (ho : kow K = RL) (hL : knL K = 7) (hN : 1300 ≤ kN K) {xs : Nat → Int32} {L : Nat} (hX0 : oLx K L xs) (hlx : oLz K) {σ0 : OM} {rc23 : Int32 → OM → Option (Int32 × OM)} (hrc23 : ∀ (l4 : Int32) (σ : OM), rc23 l4 σ = some ((1 : Int32), σ0) → Go K 23 [.ref 100, .ref 0, .ref 81, .ref 94, .int l4, .null, .null] [] σ) {l4 : Int32} {σ : OM} (h : fL_law_b1065 xs L rc23 l4 σ = some ((1 : Int32), σ0)) : Go K 1065 [.ref 100, .ref 0, .ref 81, .ref 94, .int l4, .null, .null] [] σ := by
  unfold fL_law_b1065 at h
  refine go_aload_n hc dL_law_1065 rfl rfl ?_
  refine go_aload_n hc dL_law_1066 rfl rfl ?_
  refine go_iload hc dL_law_1067 rfl ?_
  refine go_iconst hc dL_law_1069 ci_1 ?_
  refine go_iadd hc dL_law_1070 ?_
  obtain ⟨hg1, h⟩ := ogd_some h
  refine go_scr hc hX0 hg1 dL_law_1071 ?_
  obtain ⟨r2, σ3, hf4, h⟩ := obi_some h
  obtain ⟨hg5, h⟩ := ogd_some h
  refine go_callVi hc ho cmX9_takes mlL_133 dL_law_1072 ok_0 (As := [.int (xs (l4 + (1 : Int32)).toNatClampNeg)]) (rest := []) (rX9_takes (N := 4) hf4 (Nat.le_refl _)) rfl (Nat.le_trans (Nat.le_of_ble_eq_true rfl) hN) rfl (Nat.le_of_ble_eq_true rfl) (Or.inr (of_decide_eq_true hg5)) ?_
  refine go_aload_n hc dL_law_1075 rfl rfl ?_
  refine go_aload_n hc dL_law_1076 rfl rfl ?_
  refine go_iload hc dL_law_1077 rfl ?_
  refine go_iconst hc dL_law_1079 ci_1 ?_
  refine go_iadd hc dL_law_1080 ?_
  obtain ⟨hg6, h⟩ := ogd_some h
  refine go_scr hc hX0 hg6 dL_law_1081 ?_
  obtain ⟨r7, σ8, hf9, h⟩ := obi_some h
  obtain ⟨hg10, h⟩ := ogd_some h
  refine go_callVi hc ho cmX10_takes mlL_136 dL_law_1082 ok_81 (As := [.int (xs (l4 + (1 : Int32)).toNatClampNeg)]) (rest := [.int r2]) (rX10_takes (N := 6) hf9 (Nat.le_refl _)) rfl (Nat.le_trans (Nat.le_of_ble_eq_true rfl) hN) rfl (Nat.le_of_ble_eq_true rfl) (Or.inr (of_decide_eq_true hg10)) ?_
  refine go_icmp_eq (tgt := 1876) hc dL_law_1085 rfl (fun hh => ?_) (fun hh => ?_)
  · rw [if_pos hh] at h
    refine go_iinc hc (lv1 := [.ref 100, .ref 0, .ref 81, .ref 94, .int (l4 + 6), .null, .null]) dL_law_1876 rfl ci_6 hL (by decide) (fun _ _ e => by cases e; rfl) rfl ?_
    refine go_goto (tgt := 23) hc dL_law_1879 rfl ?_
    exact hrc23 (l4 + 6) _ h
  · rw [if_neg hh] at h
    refine go_iconst hc dL_law_1088 ci_0 ?_
    exact (ol01 h).elim
def fL_law_b1052 (xs : Nat → Int32) (L : Nat) (rc23 : Int32 → OM → Option (Int32 × OM)) (l4 : Int32) (σ : OM) : Option (Int32 × OM) :=
  obi (fX9_clashes σ) (fun r1 σ2 =>
  ogd (decide (mR σ2 96 0 = mR σ 96 0)) (
  obi (fX10_clashes σ2) (fun r5 σ6 =>
  ogd (decide (mR σ6 96 0 = mR σ2 96 0)) (
  if r1 = r5 then (
   rc23 (l4 + 6) σ6)
  else (some ((0 : Int32), σ6))))))
set_option maxRecDepth 100000 in
set_option maxHeartbeats 4000000 in
theorem rL_law_b1052 {K : OK} (hc : kcc K = code) (ho : kow K = RL) (hL : knL K = 7) (hN : 1300 ≤ kN K) {xs : Nat → Int32} {L : Nat} (hX0 : oLx K L xs) (hlx : oLz K) {σ0 : OM} {rc23 : Int32 → OM → Option (Int32 × OM)} (hrc23 : ∀ (l4 : Int32) (σ : OM), rc23 l4 σ = some ((1 : Int32), σ0) → Go K 23 [.ref 100, .ref 0, .ref 81, .ref 94, .int l4, .null, .null] [] σ) {l4 : Int32} {σ : OM} (h : fL_law_b1052 xs L rc23 l4 σ = some ((1 : Int32), σ0)) : Go K 1052 [.ref 100, .ref 0, .ref 81, .ref 94, .int l4, .null, .null] [] σ := by
  unfold fL_law_b1052 at h
  refine go_aload_n hc dL_law_1052 rfl rfl ?_
  obtain ⟨r1, σ2, hf3, h⟩ := obi_some h
  obtain ⟨hg4, h⟩ := ogd_some h
  refine go_callVi hc ho cmX9_clashes mlL_129 dL_law_1053 ok_0 (As := []) (rest := []) (rX9_clashes (N := 4) hf3 (Nat.le_refl _)) rfl (Nat.le_trans (Nat.le_of_ble_eq_true rfl) hN) rfl (Nat.le_of_ble_eq_true rfl) (Or.inr (of_decide_eq_true hg4)) ?_
  refine go_aload_n hc dL_law_1056 rfl rfl ?_
  obtain ⟨r5, σ6, hf7, h⟩ := obi_some h
  obtain ⟨hg8, h⟩ := ogd_some h
  refine go_callVi hc ho cmX10_clashes mlL_132 dL_law_1057 ok_81 (As := []) (rest := [.int r1]) (rX10_clashes (N := 2) hf7 (Nat.le_refl _)) rfl (Nat.le_trans (Nat.le_of_ble_eq_true rfl) hN) rfl (Nat.le_of_ble_eq_true rfl) (Or.inr (of_decide_eq_true hg8)) ?_
  refine go_icmp_eq (tgt := 1876) hc dL_law_1060 rfl (fun hh => ?_) (fun hh => ?_)
  · rw [if_pos hh] at h
    refine go_iinc hc (lv1 := [.ref 100, .ref 0, .ref 81, .ref 94, .int (l4 + 6), .null, .null]) dL_law_1876 rfl ci_6 hL (by decide) (fun _ _ e => by cases e; rfl) rfl ?_
    refine go_goto (tgt := 23) hc dL_law_1879 rfl ?_
    exact hrc23 (l4 + 6) _ h
  · rw [if_neg hh] at h
    refine go_iconst hc dL_law_1063 ci_0 ?_
    exact (ol01 h).elim
def fL_law_b1015 (xs : Nat → Int32) (L : Nat) (rc23 : Int32 → OM → Option (Int32 × OM)) (l4 : Int32) (σ : OM) : Option (Int32 × OM) :=
  ogd (oin (l4 + (1 : Int32)) L) (
  ogd (oin (l4 + (2 : Int32)) L) (
  obi (fX9_told (xs (l4 + (1 : Int32)).toNatClampNeg) (xs (l4 + (2 : Int32)).toNatClampNeg) σ) (fun r3 σ4 =>
  ogd (decide (mR σ4 96 0 = mR σ 96 0)) (
  ogd (oin (l4 + (1 : Int32)) L) (
  ogd (oin (l4 + (2 : Int32)) L) (
  obi (fX10_told (xs (l4 + (1 : Int32)).toNatClampNeg) (xs (l4 + (2 : Int32)).toNatClampNeg) σ4) (fun r9 σ10 =>
  ogd (decide (mR σ10 96 0 = mR σ4 96 0)) (
  if r3 = r9 then (
   rc23 (l4 + 6) σ10)
  else (some ((0 : Int32), σ10))))))))))
set_option maxRecDepth 100000 in
set_option maxHeartbeats 4000000 in
theorem rL_law_b1015 {K : OK} (hc : kcc K = code) (ho : kow K = RL) (hL : knL K = 7) (hN : 1300 ≤ kN K) {xs : Nat → Int32} {L : Nat} (hX0 : oLx K L xs) (hlx : oLz K) {σ0 : OM} {rc23 : Int32 → OM → Option (Int32 × OM)} (hrc23 : ∀ (l4 : Int32) (σ : OM), rc23 l4 σ = some ((1 : Int32), σ0) → Go K 23 [.ref 100, .ref 0, .ref 81, .ref 94, .int l4, .null, .null] [] σ) {l4 : Int32} {σ : OM} (h : fL_law_b1015 xs L rc23 l4 σ = some ((1 : Int32), σ0)) : Go K 1015 [.ref 100, .ref 0, .ref 81, .ref 94, .int l4, .null, .null] [] σ := by
  unfold fL_law_b1015 at h
  refine go_aload_n hc dL_law_1015 rfl rfl ?_
  refine go_aload_n hc dL_law_1016 rfl rfl ?_
  refine go_iload hc dL_law_1017 rfl ?_
  refine go_iconst hc dL_law_1019 ci_1 ?_
  refine go_iadd hc dL_law_1020 ?_
  obtain ⟨hg1, h⟩ := ogd_some h
  refine go_scr hc hX0 hg1 dL_law_1021 ?_
  refine go_aload_n hc dL_law_1022 rfl rfl ?_
  refine go_iload hc dL_law_1023 rfl ?_
  refine go_iconst hc dL_law_1025 ci_2 ?_
  refine go_iadd hc dL_law_1026 ?_
  obtain ⟨hg2, h⟩ := ogd_some h
  refine go_scr hc hX0 hg2 dL_law_1027 ?_
  obtain ⟨r3, σ4, hf5, h⟩ := obi_some h
  obtain ⟨hg6, h⟩ := ogd_some h
  refine go_callVi hc ho cmX9_told mlL_125 dL_law_1028 ok_0 (As := [.int (xs (l4 + (1 : Int32)).toNatClampNeg), .int (xs (l4 + (2 : Int32)).toNatClampNeg)]) (rest := []) (rX9_told (N := 4) hf5 (Nat.le_refl _)) rfl (Nat.le_trans (Nat.le_of_ble_eq_true rfl) hN) rfl (Nat.le_of_ble_eq_true rfl) (Or.inr (of_decide_eq_true hg6)) ?_
  refine go_aload_n hc dL_law_1031 rfl rfl ?_
  refine go_aload_n hc dL_law_1032 rfl rfl ?_
  refine go_iload hc dL_law_1033 rfl ?_
  refine go_iconst hc dL_law_1035 ci_1 ?_
  refine go_iadd hc dL_law_1036 ?_
  obtain ⟨hg7, h⟩ := ogd_some h
  refine go_scr hc hX0 hg7 dL_law_1037 ?_
  refine go_aload_n hc dL_law_1038 rfl rfl ?_
  refine go_iload hc dL_law_1039 rfl ?_
  refine go_iconst hc dL_law_1041 ci_2 ?_
  refine go_iadd hc dL_law_1042 ?_
  obtain ⟨hg8, h⟩ := ogd_some h
  refine go_scr hc hX0 hg8 dL_law_1043 ?_
  obtain ⟨r9, σ10, hf11, h⟩ := obi_some h
  obtain ⟨hg12, h⟩ := ogd_some h
  refine go_callVi hc ho cmX10_told mlL_128 dL_law_1044 ok_81 (As := [.int (xs (l4 + (1 : Int32)).toNatClampNeg), .int (xs (l4 + (2 : Int32)).toNatClampNeg)]) (rest := [.int r3]) (rX10_told (N := 6) hf11 (Nat.le_refl _)) rfl (Nat.le_trans (Nat.le_of_ble_eq_true rfl) hN) rfl (Nat.le_of_ble_eq_true rfl) (Or.inr (of_decide_eq_true hg12)) ?_
  refine go_icmp_eq (tgt := 1876) hc dL_law_1047 rfl (fun hh => ?_) (fun hh => ?_)
  · rw [if_pos hh] at h
    refine go_iinc hc (lv1 := [.ref 100, .ref 0, .ref 81, .ref 94, .int (l4 + 6), .null, .null]) dL_law_1876 rfl ci_6 hL (by decide) (fun _ _ e => by cases e; rfl) rfl ?_
    refine go_goto (tgt := 23) hc dL_law_1879 rfl ?_
    exact hrc23 (l4 + 6) _ h
  · rw [if_neg hh] at h
    refine go_iconst hc dL_law_1050 ci_0 ?_
    exact (ol01 h).elim
def fL_law_b990 (xs : Nat → Int32) (L : Nat) (rc23 : Int32 → OM → Option (Int32 × OM)) (l4 : Int32) (σ : OM) : Option (Int32 × OM) :=
  ogd (oin (l4 + (1 : Int32)) L) (
  obi (fX9_needless (xs (l4 + (1 : Int32)).toNatClampNeg) σ) (fun r2 σ3 =>
  ogd (decide (mR σ3 96 0 = mR σ 96 0)) (
  ogd (oin (l4 + (1 : Int32)) L) (
  obi (fX10_needless (xs (l4 + (1 : Int32)).toNatClampNeg) σ3) (fun r7 σ8 =>
  ogd (decide (mR σ8 96 0 = mR σ3 96 0)) (
  if r2 = r7 then (
   rc23 (l4 + 6) σ8)
  else (some ((0 : Int32), σ8))))))))
set_option maxRecDepth 100000 in
set_option maxHeartbeats 4000000 in
theorem rL_law_b990 {K : OK} (hc : kcc K = code) (ho : kow K = RL) (hL : knL K = 7) (hN : 1300 ≤ kN K) {xs : Nat → Int32} {L : Nat} (hX0 : oLx K L xs) (hlx : oLz K) {σ0 : OM} {rc23 : Int32 → OM → Option (Int32 × OM)} (hrc23 : ∀ (l4 : Int32) (σ : OM), rc23 l4 σ = some ((1 : Int32), σ0) → Go K 23 [.ref 100, .ref 0, .ref 81, .ref 94, .int l4, .null, .null] [] σ) {l4 : Int32} {σ : OM} (h : fL_law_b990 xs L rc23 l4 σ = some ((1 : Int32), σ0)) : Go K 990 [.ref 100, .ref 0, .ref 81, .ref 94, .int l4, .null, .null] [] σ := by
  unfold fL_law_b990 at h
  refine go_aload_n hc dL_law_990 rfl rfl ?_
  refine go_aload_n hc dL_law_991 rfl rfl ?_
  refine go_iload hc dL_law_992 rfl ?_
  refine go_iconst hc dL_law_994 ci_1 ?_
  refine go_iadd hc dL_law_995 ?_
  obtain ⟨hg1, h⟩ := ogd_some h
  refine go_scr hc hX0 hg1 dL_law_996 ?_
  obtain ⟨r2, σ3, hf4, h⟩ := obi_some h
  obtain ⟨hg5, h⟩ := ogd_some h
  refine go_callVi hc ho cmX9_needless mlL_121 dL_law_997 ok_0 (As := [.int (xs (l4 + (1 : Int32)).toNatClampNeg)]) (rest := []) (rX9_needless (N := 6) hf4 (Nat.le_refl _)) rfl (Nat.le_trans (Nat.le_of_ble_eq_true rfl) hN) rfl (Nat.le_of_ble_eq_true rfl) (Or.inr (of_decide_eq_true hg5)) ?_
  refine go_aload_n hc dL_law_1000 rfl rfl ?_
  refine go_aload_n hc dL_law_1001 rfl rfl ?_
  refine go_iload hc dL_law_1002 rfl ?_
  refine go_iconst hc dL_law_1004 ci_1 ?_
  refine go_iadd hc dL_law_1005 ?_
  obtain ⟨hg6, h⟩ := ogd_some h
  refine go_scr hc hX0 hg6 dL_law_1006 ?_
  obtain ⟨r7, σ8, hf9, h⟩ := obi_some h
  obtain ⟨hg10, h⟩ := ogd_some h
  refine go_callVi hc ho cmX10_needless mlL_124 dL_law_1007 ok_81 (As := [.int (xs (l4 + (1 : Int32)).toNatClampNeg)]) (rest := [.int r2]) (rX10_needless (N := 5) hf9 (Nat.le_refl _)) rfl (Nat.le_trans (Nat.le_of_ble_eq_true rfl) hN) rfl (Nat.le_of_ble_eq_true rfl) (Or.inr (of_decide_eq_true hg10)) ?_
  refine go_icmp_eq (tgt := 1876) hc dL_law_1010 rfl (fun hh => ?_) (fun hh => ?_)
  · rw [if_pos hh] at h
    refine go_iinc hc (lv1 := [.ref 100, .ref 0, .ref 81, .ref 94, .int (l4 + 6), .null, .null]) dL_law_1876 rfl ci_6 hL (by decide) (fun _ _ e => by cases e; rfl) rfl ?_
    refine go_goto (tgt := 23) hc dL_law_1879 rfl ?_
    exact hrc23 (l4 + 6) _ h
  · rw [if_neg hh] at h
    refine go_iconst hc dL_law_1013 ci_0 ?_
    exact (ol01 h).elim
def fL_law_b925 (xs : Nat → Int32) (L : Nat) (rc23 : Int32 → OM → Option (Int32 × OM)) (l4 : Int32) (σ : OM) : Option (Int32 × OM) :=
  ogd (oin (l4 + (1 : Int32)) L) (
  ogd (oin (l4 + (2 : Int32)) L) (
  ogd (oin (l4 + (3 : Int32)) L) (
  if (xs (l4 + (3 : Int32)).toNatClampNeg) = 0 then (
   obi (fX9_wouldKnow (xs (l4 + (1 : Int32)).toNatClampNeg) (xs (l4 + (2 : Int32)).toNatClampNeg) (0 : Int32) σ) (fun r4 σ5 =>
   ogd (decide (mR σ5 96 0 = mR σ 96 0)) (
   ogd (oin (l4 + (1 : Int32)) L) (
   ogd (oin (l4 + (2 : Int32)) L) (
   ogd (oin (l4 + (3 : Int32)) L) (
   if (xs (l4 + (3 : Int32)).toNatClampNeg) = 0 then (
    obi (fX10_wouldKnow (xs (l4 + (1 : Int32)).toNatClampNeg) (xs (l4 + (2 : Int32)).toNatClampNeg) (0 : Int32) σ5) (fun r11 σ12 =>
    ogd (decide (mR σ12 96 0 = mR σ5 96 0)) (
    if r4 = r11 then (
     rc23 (l4 + 6) σ12)
    else (some ((0 : Int32), σ12)))))
   else (obi (fX10_wouldKnow (xs (l4 + (1 : Int32)).toNatClampNeg) (xs (l4 + (2 : Int32)).toNatClampNeg) (1 : Int32) σ5) (fun r15 σ16 =>
   ogd (decide (mR σ16 96 0 = mR σ5 96 0)) (
   if r4 = r15 then (
    rc23 (l4 + 6) σ16)
   else (some ((0 : Int32), σ16)))))))))))
  else (obi (fX9_wouldKnow (xs (l4 + (1 : Int32)).toNatClampNeg) (xs (l4 + (2 : Int32)).toNatClampNeg) (1 : Int32) σ) (fun r19 σ20 =>
  ogd (decide (mR σ20 96 0 = mR σ 96 0)) (
  ogd (oin (l4 + (1 : Int32)) L) (
  ogd (oin (l4 + (2 : Int32)) L) (
  ogd (oin (l4 + (3 : Int32)) L) (
  if (xs (l4 + (3 : Int32)).toNatClampNeg) = 0 then (
   obi (fX10_wouldKnow (xs (l4 + (1 : Int32)).toNatClampNeg) (xs (l4 + (2 : Int32)).toNatClampNeg) (0 : Int32) σ20) (fun r26 σ27 =>
   ogd (decide (mR σ27 96 0 = mR σ20 96 0)) (
   if r19 = r26 then (
    rc23 (l4 + 6) σ27)
   else (some ((0 : Int32), σ27)))))
  else (obi (fX10_wouldKnow (xs (l4 + (1 : Int32)).toNatClampNeg) (xs (l4 + (2 : Int32)).toNatClampNeg) (1 : Int32) σ20) (fun r30 σ31 =>
  ogd (decide (mR σ31 96 0 = mR σ20 96 0)) (
  if r19 = r30 then (
   rc23 (l4 + 6) σ31)
  else (some ((0 : Int32), σ31))))))))))))))
set_option maxRecDepth 100000 in
set_option maxHeartbeats 4000000 in
theorem rL_law_b925 {K : OK} (hc : kcc K = code) (ho : kow K = RL) (hL : knL K = 7) (hN : 1300 ≤ kN K) {xs : Nat → Int32} {L : Nat} (hX0 : oLx K L xs) (hlx : oLz K) {σ0 : OM} {rc23 : Int32 → OM → Option (Int32 × OM)} (hrc23 : ∀ (l4 : Int32) (σ : OM), rc23 l4 σ = some ((1 : Int32), σ0) → Go K 23 [.ref 100, .ref 0, .ref 81, .ref 94, .int l4, .null, .null] [] σ) {l4 : Int32} {σ : OM} (h : fL_law_b925 xs L rc23 l4 σ = some ((1 : Int32), σ0)) : Go K 925 [.ref 100, .ref 0, .ref 81, .ref 94, .int l4, .null, .null] [] σ := by
  unfold fL_law_b925 at h
  refine go_aload_n hc dL_law_925 rfl rfl ?_
  refine go_aload_n hc dL_law_926 rfl rfl ?_
  refine go_iload hc dL_law_927 rfl ?_
  refine go_iconst hc dL_law_929 ci_1 ?_
  refine go_iadd hc dL_law_930 ?_
  obtain ⟨hg1, h⟩ := ogd_some h
  refine go_scr hc hX0 hg1 dL_law_931 ?_
  refine go_aload_n hc dL_law_932 rfl rfl ?_
  refine go_iload hc dL_law_933 rfl ?_
  refine go_iconst hc dL_law_935 ci_2 ?_
  refine go_iadd hc dL_law_936 ?_
  obtain ⟨hg2, h⟩ := ogd_some h
  refine go_scr hc hX0 hg2 dL_law_937 ?_
  refine go_aload_n hc dL_law_938 rfl rfl ?_
  refine go_iload hc dL_law_939 rfl ?_
  refine go_iconst hc dL_law_941 ci_3 ?_
  refine go_iadd hc dL_law_942 ?_
  obtain ⟨hg3, h⟩ := ogd_some h
  refine go_scr hc hX0 hg3 dL_law_943 ?_
  refine go_if_eq (tgt := 951) hc dL_law_944 rfl (fun hh => ?_) (fun hh => ?_)
  · rw [if_pos hh] at h
    refine go_iconst hc dL_law_951 ci_0 ?_
    obtain ⟨r4, σ5, hf6, h⟩ := obi_some h
    obtain ⟨hg7, h⟩ := ogd_some h
    refine go_callVi hc ho cmX9_wouldKnow mlL_116 dL_law_952 ok_0 (As := [.int (xs (l4 + (1 : Int32)).toNatClampNeg), .int (xs (l4 + (2 : Int32)).toNatClampNeg), .int (0 : Int32)]) (rest := []) (rX9_wouldKnow (N := 5) hf6 (Nat.le_refl _)) rfl (Nat.le_trans (Nat.le_of_ble_eq_true rfl) hN) rfl (Nat.le_of_ble_eq_true rfl) (Or.inr (of_decide_eq_true hg7)) ?_
    refine go_aload_n hc dL_law_955 rfl rfl ?_
    refine go_aload_n hc dL_law_956 rfl rfl ?_
    refine go_iload hc dL_law_957 rfl ?_
    refine go_iconst hc dL_law_959 ci_1 ?_
    refine go_iadd hc dL_law_960 ?_
    obtain ⟨hg8, h⟩ := ogd_some h
    refine go_scr hc hX0 hg8 dL_law_961 ?_
    refine go_aload_n hc dL_law_962 rfl rfl ?_
    refine go_iload hc dL_law_963 rfl ?_
    refine go_iconst hc dL_law_965 ci_2 ?_
    refine go_iadd hc dL_law_966 ?_
    obtain ⟨hg9, h⟩ := ogd_some h
    refine go_scr hc hX0 hg9 dL_law_967 ?_
    refine go_aload_n hc dL_law_968 rfl rfl ?_
    refine go_iload hc dL_law_969 rfl ?_
    refine go_iconst hc dL_law_971 ci_3 ?_
    refine go_iadd hc dL_law_972 ?_
    obtain ⟨hg10, h⟩ := ogd_some h
    refine go_scr hc hX0 hg10 dL_law_973 ?_
    refine go_if_eq (tgt := 981) hc dL_law_974 rfl (fun hh => ?_) (fun hh => ?_)
    · rw [if_pos hh] at h
      refine go_iconst hc dL_law_981 ci_0 ?_
      obtain ⟨r11, σ12, hf13, h⟩ := obi_some h
      obtain ⟨hg14, h⟩ := ogd_some h
      refine go_callVi hc ho cmX10_wouldKnow mlL_120 dL_law_982 ok_81 (As := [.int (xs (l4 + (1 : Int32)).toNatClampNeg), .int (xs (l4 + (2 : Int32)).toNatClampNeg), .int (0 : Int32)]) (rest := [.int r4]) (rX10_wouldKnow (N := 6) hf13 (Nat.le_refl _)) rfl (Nat.le_trans (Nat.le_of_ble_eq_true rfl) hN) rfl (Nat.le_of_ble_eq_true rfl) (Or.inr (of_decide_eq_true hg14)) ?_
      refine go_icmp_eq (tgt := 1876) hc dL_law_985 rfl (fun hh => ?_) (fun hh => ?_)
      · rw [if_pos hh] at h
        refine go_iinc hc (lv1 := [.ref 100, .ref 0, .ref 81, .ref 94, .int (l4 + 6), .null, .null]) dL_law_1876 rfl ci_6 hL (by decide) (fun _ _ e => by cases e; rfl) rfl ?_
        refine go_goto (tgt := 23) hc dL_law_1879 rfl ?_
        exact hrc23 (l4 + 6) _ h
      · rw [if_neg hh] at h
        refine go_iconst hc dL_law_988 ci_0 ?_
        exact (ol01 h).elim
    · rw [if_neg hh] at h
      refine go_iconst hc dL_law_977 ci_1 ?_
      refine go_goto (tgt := 982) hc dL_law_978 rfl ?_
      obtain ⟨r15, σ16, hf17, h⟩ := obi_some h
      obtain ⟨hg18, h⟩ := ogd_some h
      refine go_callVi hc ho cmX10_wouldKnow mlL_120 dL_law_982 ok_81 (As := [.int (xs (l4 + (1 : Int32)).toNatClampNeg), .int (xs (l4 + (2 : Int32)).toNatClampNeg), .int (1 : Int32)]) (rest := [.int r4]) (rX10_wouldKnow (N := 6) hf17 (Nat.le_refl _)) rfl (Nat.le_trans (Nat.le_of_ble_eq_true rfl) hN) rfl (Nat.le_of_ble_eq_true rfl) (Or.inr (of_decide_eq_true hg18)) ?_
      refine go_icmp_eq (tgt := 1876) hc dL_law_985 rfl (fun hh => ?_) (fun hh => ?_)
      · rw [if_pos hh] at h
        refine go_iinc hc (lv1 := [.ref 100, .ref 0, .ref 81, .ref 94, .int (l4 + 6), .null, .null]) dL_law_1876 rfl ci_6 hL (by decide) (fun _ _ e => by cases e; rfl) rfl ?_
        refine go_goto (tgt := 23) hc dL_law_1879 rfl ?_
        exact hrc23 (l4 + 6) _ h
      · rw [if_neg hh] at h
        refine go_iconst hc dL_law_988 ci_0 ?_
        exact (ol01 h).elim
  · rw [if_neg hh] at h
    refine go_iconst hc dL_law_947 ci_1 ?_
    refine go_goto (tgt := 952) hc dL_law_948 rfl ?_
    obtain ⟨r19, σ20, hf21, h⟩ := obi_some h
    obtain ⟨hg22, h⟩ := ogd_some h
    refine go_callVi hc ho cmX9_wouldKnow mlL_116 dL_law_952 ok_0 (As := [.int (xs (l4 + (1 : Int32)).toNatClampNeg), .int (xs (l4 + (2 : Int32)).toNatClampNeg), .int (1 : Int32)]) (rest := []) (rX9_wouldKnow (N := 5) hf21 (Nat.le_refl _)) rfl (Nat.le_trans (Nat.le_of_ble_eq_true rfl) hN) rfl (Nat.le_of_ble_eq_true rfl) (Or.inr (of_decide_eq_true hg22)) ?_
    refine go_aload_n hc dL_law_955 rfl rfl ?_
    refine go_aload_n hc dL_law_956 rfl rfl ?_
    refine go_iload hc dL_law_957 rfl ?_
    refine go_iconst hc dL_law_959 ci_1 ?_
    refine go_iadd hc dL_law_960 ?_
    obtain ⟨hg23, h⟩ := ogd_some h
    refine go_scr hc hX0 hg23 dL_law_961 ?_
    refine go_aload_n hc dL_law_962 rfl rfl ?_
    refine go_iload hc dL_law_963 rfl ?_
    refine go_iconst hc dL_law_965 ci_2 ?_
    refine go_iadd hc dL_law_966 ?_
    obtain ⟨hg24, h⟩ := ogd_some h
    refine go_scr hc hX0 hg24 dL_law_967 ?_
    refine go_aload_n hc dL_law_968 rfl rfl ?_
    refine go_iload hc dL_law_969 rfl ?_
    refine go_iconst hc dL_law_971 ci_3 ?_
    refine go_iadd hc dL_law_972 ?_
    obtain ⟨hg25, h⟩ := ogd_some h
    refine go_scr hc hX0 hg25 dL_law_973 ?_
    refine go_if_eq (tgt := 981) hc dL_law_974 rfl (fun hh => ?_) (fun hh => ?_)
    · rw [if_pos hh] at h
      refine go_iconst hc dL_law_981 ci_0 ?_
      obtain ⟨r26, σ27, hf28, h⟩ := obi_some h
      obtain ⟨hg29, h⟩ := ogd_some h
      refine go_callVi hc ho cmX10_wouldKnow mlL_120 dL_law_982 ok_81 (As := [.int (xs (l4 + (1 : Int32)).toNatClampNeg), .int (xs (l4 + (2 : Int32)).toNatClampNeg), .int (0 : Int32)]) (rest := [.int r19]) (rX10_wouldKnow (N := 6) hf28 (Nat.le_refl _)) rfl (Nat.le_trans (Nat.le_of_ble_eq_true rfl) hN) rfl (Nat.le_of_ble_eq_true rfl) (Or.inr (of_decide_eq_true hg29)) ?_
      refine go_icmp_eq (tgt := 1876) hc dL_law_985 rfl (fun hh => ?_) (fun hh => ?_)
      · rw [if_pos hh] at h
        refine go_iinc hc (lv1 := [.ref 100, .ref 0, .ref 81, .ref 94, .int (l4 + 6), .null, .null]) dL_law_1876 rfl ci_6 hL (by decide) (fun _ _ e => by cases e; rfl) rfl ?_
        refine go_goto (tgt := 23) hc dL_law_1879 rfl ?_
        exact hrc23 (l4 + 6) _ h
      · rw [if_neg hh] at h
        refine go_iconst hc dL_law_988 ci_0 ?_
        exact (ol01 h).elim
    · rw [if_neg hh] at h
      refine go_iconst hc dL_law_977 ci_1 ?_
      refine go_goto (tgt := 982) hc dL_law_978 rfl ?_
      obtain ⟨r30, σ31, hf32, h⟩ := obi_some h
      obtain ⟨hg33, h⟩ := ogd_some h
      refine go_callVi hc ho cmX10_wouldKnow mlL_120 dL_law_982 ok_81 (As := [.int (xs (l4 + (1 : Int32)).toNatClampNeg), .int (xs (l4 + (2 : Int32)).toNatClampNeg), .int (1 : Int32)]) (rest := [.int r19]) (rX10_wouldKnow (N := 6) hf32 (Nat.le_refl _)) rfl (Nat.le_trans (Nat.le_of_ble_eq_true rfl) hN) rfl (Nat.le_of_ble_eq_true rfl) (Or.inr (of_decide_eq_true hg33)) ?_
      refine go_icmp_eq (tgt := 1876) hc dL_law_985 rfl (fun hh => ?_) (fun hh => ?_)
      · rw [if_pos hh] at h
        refine go_iinc hc (lv1 := [.ref 100, .ref 0, .ref 81, .ref 94, .int (l4 + 6), .null, .null]) dL_law_1876 rfl ci_6 hL (by decide) (fun _ _ e => by cases e; rfl) rfl ?_
        refine go_goto (tgt := 23) hc dL_law_1879 rfl ?_
        exact hrc23 (l4 + 6) _ h
      · rw [if_neg hh] at h
        refine go_iconst hc dL_law_988 ci_0 ?_
        exact (ol01 h).elim
def fL_law_b859 (xs : Nat → Int32) (L : Nat) (rc23 : Int32 → OM → Option (Int32 × OM)) (l4 : Int32) (σ : OM) : Option (Int32 × OM) :=
  ogd (oin (l4 + (1 : Int32)) L) (
  ogd (oin (l4 + (2 : Int32)) L) (
  ogd (oin (l4 + (3 : Int32)) L) (
  if (xs (l4 + (3 : Int32)).toNatClampNeg) = 0 then (
   obi (fX9_chanceOf (xs (l4 + (1 : Int32)).toNatClampNeg) (xs (l4 + (2 : Int32)).toNatClampNeg) (0 : Int32) σ) (fun r4 σ5 =>
   ogd (decide (mR σ5 96 0 = mR σ 96 0)) (
   ogd (oin (l4 + (1 : Int32)) L) (
   ogd (oin (l4 + (2 : Int32)) L) (
   ogd (oin (l4 + (3 : Int32)) L) (
   if (xs (l4 + (3 : Int32)).toNatClampNeg) = 0 then (
    obi (fX10_chanceOf (xs (l4 + (1 : Int32)).toNatClampNeg) (xs (l4 + (2 : Int32)).toNatClampNeg) (0 : Int32) σ5) (fun r11 σ12 =>
    ogd (decide (mR σ12 96 0 = mR σ5 96 0)) (
    if (lg_cmp r4 r11) = 0 then (
     rc23 (l4 + 6) σ12)
    else (some ((0 : Int32), σ12)))))
   else (obi (fX10_chanceOf (xs (l4 + (1 : Int32)).toNatClampNeg) (xs (l4 + (2 : Int32)).toNatClampNeg) (1 : Int32) σ5) (fun r15 σ16 =>
   ogd (decide (mR σ16 96 0 = mR σ5 96 0)) (
   if (lg_cmp r4 r15) = 0 then (
    rc23 (l4 + 6) σ16)
   else (some ((0 : Int32), σ16)))))))))))
  else (obi (fX9_chanceOf (xs (l4 + (1 : Int32)).toNatClampNeg) (xs (l4 + (2 : Int32)).toNatClampNeg) (1 : Int32) σ) (fun r19 σ20 =>
  ogd (decide (mR σ20 96 0 = mR σ 96 0)) (
  ogd (oin (l4 + (1 : Int32)) L) (
  ogd (oin (l4 + (2 : Int32)) L) (
  ogd (oin (l4 + (3 : Int32)) L) (
  if (xs (l4 + (3 : Int32)).toNatClampNeg) = 0 then (
   obi (fX10_chanceOf (xs (l4 + (1 : Int32)).toNatClampNeg) (xs (l4 + (2 : Int32)).toNatClampNeg) (0 : Int32) σ20) (fun r26 σ27 =>
   ogd (decide (mR σ27 96 0 = mR σ20 96 0)) (
   if (lg_cmp r19 r26) = 0 then (
    rc23 (l4 + 6) σ27)
   else (some ((0 : Int32), σ27)))))
  else (obi (fX10_chanceOf (xs (l4 + (1 : Int32)).toNatClampNeg) (xs (l4 + (2 : Int32)).toNatClampNeg) (1 : Int32) σ20) (fun r30 σ31 =>
  ogd (decide (mR σ31 96 0 = mR σ20 96 0)) (
  if (lg_cmp r19 r30) = 0 then (
   rc23 (l4 + 6) σ31)
  else (some ((0 : Int32), σ31))))))))))))))
set_option maxRecDepth 100000 in
set_option maxHeartbeats 4000000 in
theorem rL_law_b859 {K : OK} (hc : kcc K = code) (ho : kow K = RL) (hL : knL K = 7) (hN : 1300 ≤ kN K) {xs : Nat → Int32} {L : Nat} (hX0 : oLx K L xs) (hlx : oLz K) {σ0 : OM} {rc23 : Int32 → OM → Option (Int32 × OM)} (hrc23 : ∀ (l4 : Int32) (σ : OM), rc23 l4 σ = some ((1 : Int32), σ0) → Go K 23 [.ref 100, .ref 0, .ref 81, .ref 94, .int l4, .null, .null] [] σ) {l4 : Int32} {σ : OM} (h : fL_law_b859 xs L rc23 l4 σ = some ((1 : Int32), σ0)) : Go K 859 [.ref 100, .ref 0, .ref 81, .ref 94, .int l4, .null, .null] [] σ := by
  unfold fL_law_b859 at h
  refine go_aload_n hc dL_law_859 rfl rfl ?_
  refine go_aload_n hc dL_law_860 rfl rfl ?_
  refine go_iload hc dL_law_861 rfl ?_
  refine go_iconst hc dL_law_863 ci_1 ?_
  refine go_iadd hc dL_law_864 ?_
  obtain ⟨hg1, h⟩ := ogd_some h
  refine go_scr hc hX0 hg1 dL_law_865 ?_
  refine go_aload_n hc dL_law_866 rfl rfl ?_
  refine go_iload hc dL_law_867 rfl ?_
  refine go_iconst hc dL_law_869 ci_2 ?_
  refine go_iadd hc dL_law_870 ?_
  obtain ⟨hg2, h⟩ := ogd_some h
  refine go_scr hc hX0 hg2 dL_law_871 ?_
  refine go_aload_n hc dL_law_872 rfl rfl ?_
  refine go_iload hc dL_law_873 rfl ?_
  refine go_iconst hc dL_law_875 ci_3 ?_
  refine go_iadd hc dL_law_876 ?_
  obtain ⟨hg3, h⟩ := ogd_some h
  refine go_scr hc hX0 hg3 dL_law_877 ?_
  refine go_if_eq (tgt := 885) hc dL_law_878 rfl (fun hh => ?_) (fun hh => ?_)
  · rw [if_pos hh] at h
    refine go_iconst hc dL_law_885 ci_0 ?_
    obtain ⟨r4, σ5, hf6, h⟩ := obi_some h
    obtain ⟨hg7, h⟩ := ogd_some h
    refine go_callVl hc ho cmX9_chanceOf mlL_111 dL_law_886 ok_0 (As := [.int (xs (l4 + (1 : Int32)).toNatClampNeg), .int (xs (l4 + (2 : Int32)).toNatClampNeg), .int (0 : Int32)]) (rest := []) (rX9_chanceOf (N := 5) hf6 (Nat.le_refl _)) rfl (Nat.le_trans (Nat.le_of_ble_eq_true rfl) hN) rfl (Nat.le_of_ble_eq_true rfl) (Or.inr (of_decide_eq_true hg7)) ?_
    refine go_aload_n hc dL_law_889 rfl rfl ?_
    refine go_aload_n hc dL_law_890 rfl rfl ?_
    refine go_iload hc dL_law_891 rfl ?_
    refine go_iconst hc dL_law_893 ci_1 ?_
    refine go_iadd hc dL_law_894 ?_
    obtain ⟨hg8, h⟩ := ogd_some h
    refine go_scr hc hX0 hg8 dL_law_895 ?_
    refine go_aload_n hc dL_law_896 rfl rfl ?_
    refine go_iload hc dL_law_897 rfl ?_
    refine go_iconst hc dL_law_899 ci_2 ?_
    refine go_iadd hc dL_law_900 ?_
    obtain ⟨hg9, h⟩ := ogd_some h
    refine go_scr hc hX0 hg9 dL_law_901 ?_
    refine go_aload_n hc dL_law_902 rfl rfl ?_
    refine go_iload hc dL_law_903 rfl ?_
    refine go_iconst hc dL_law_905 ci_3 ?_
    refine go_iadd hc dL_law_906 ?_
    obtain ⟨hg10, h⟩ := ogd_some h
    refine go_scr hc hX0 hg10 dL_law_907 ?_
    refine go_if_eq (tgt := 915) hc dL_law_908 rfl (fun hh => ?_) (fun hh => ?_)
    · rw [if_pos hh] at h
      refine go_iconst hc dL_law_915 ci_0 ?_
      obtain ⟨r11, σ12, hf13, h⟩ := obi_some h
      obtain ⟨hg14, h⟩ := ogd_some h
      refine go_callVl hc ho cmX10_chanceOf mlL_115 dL_law_916 ok_81 (As := [.int (xs (l4 + (1 : Int32)).toNatClampNeg), .int (xs (l4 + (2 : Int32)).toNatClampNeg), .int (0 : Int32)]) (rest := [.long r4]) (rX10_chanceOf (N := 6) hf13 (Nat.le_refl _)) rfl (Nat.le_trans (Nat.le_of_ble_eq_true rfl) hN) rfl (Nat.le_of_ble_eq_true rfl) (Or.inr (of_decide_eq_true hg14)) ?_
      refine go_lcmp hc dL_law_919 ?_
      refine go_if_eq (tgt := 1876) hc dL_law_920 rfl (fun hh => ?_) (fun hh => ?_)
      · rw [if_pos hh] at h
        refine go_iinc hc (lv1 := [.ref 100, .ref 0, .ref 81, .ref 94, .int (l4 + 6), .null, .null]) dL_law_1876 rfl ci_6 hL (by decide) (fun _ _ e => by cases e; rfl) rfl ?_
        refine go_goto (tgt := 23) hc dL_law_1879 rfl ?_
        exact hrc23 (l4 + 6) _ h
      · rw [if_neg hh] at h
        refine go_iconst hc dL_law_923 ci_0 ?_
        exact (ol01 h).elim
    · rw [if_neg hh] at h
      refine go_iconst hc dL_law_911 ci_1 ?_
      refine go_goto (tgt := 916) hc dL_law_912 rfl ?_
      obtain ⟨r15, σ16, hf17, h⟩ := obi_some h
      obtain ⟨hg18, h⟩ := ogd_some h
      refine go_callVl hc ho cmX10_chanceOf mlL_115 dL_law_916 ok_81 (As := [.int (xs (l4 + (1 : Int32)).toNatClampNeg), .int (xs (l4 + (2 : Int32)).toNatClampNeg), .int (1 : Int32)]) (rest := [.long r4]) (rX10_chanceOf (N := 6) hf17 (Nat.le_refl _)) rfl (Nat.le_trans (Nat.le_of_ble_eq_true rfl) hN) rfl (Nat.le_of_ble_eq_true rfl) (Or.inr (of_decide_eq_true hg18)) ?_
      refine go_lcmp hc dL_law_919 ?_
      refine go_if_eq (tgt := 1876) hc dL_law_920 rfl (fun hh => ?_) (fun hh => ?_)
      · rw [if_pos hh] at h
        refine go_iinc hc (lv1 := [.ref 100, .ref 0, .ref 81, .ref 94, .int (l4 + 6), .null, .null]) dL_law_1876 rfl ci_6 hL (by decide) (fun _ _ e => by cases e; rfl) rfl ?_
        refine go_goto (tgt := 23) hc dL_law_1879 rfl ?_
        exact hrc23 (l4 + 6) _ h
      · rw [if_neg hh] at h
        refine go_iconst hc dL_law_923 ci_0 ?_
        exact (ol01 h).elim
  · rw [if_neg hh] at h
    refine go_iconst hc dL_law_881 ci_1 ?_
    refine go_goto (tgt := 886) hc dL_law_882 rfl ?_
    obtain ⟨r19, σ20, hf21, h⟩ := obi_some h
    obtain ⟨hg22, h⟩ := ogd_some h
    refine go_callVl hc ho cmX9_chanceOf mlL_111 dL_law_886 ok_0 (As := [.int (xs (l4 + (1 : Int32)).toNatClampNeg), .int (xs (l4 + (2 : Int32)).toNatClampNeg), .int (1 : Int32)]) (rest := []) (rX9_chanceOf (N := 5) hf21 (Nat.le_refl _)) rfl (Nat.le_trans (Nat.le_of_ble_eq_true rfl) hN) rfl (Nat.le_of_ble_eq_true rfl) (Or.inr (of_decide_eq_true hg22)) ?_
    refine go_aload_n hc dL_law_889 rfl rfl ?_
    refine go_aload_n hc dL_law_890 rfl rfl ?_
    refine go_iload hc dL_law_891 rfl ?_
    refine go_iconst hc dL_law_893 ci_1 ?_
    refine go_iadd hc dL_law_894 ?_
    obtain ⟨hg23, h⟩ := ogd_some h
    refine go_scr hc hX0 hg23 dL_law_895 ?_
    refine go_aload_n hc dL_law_896 rfl rfl ?_
    refine go_iload hc dL_law_897 rfl ?_
    refine go_iconst hc dL_law_899 ci_2 ?_
    refine go_iadd hc dL_law_900 ?_
    obtain ⟨hg24, h⟩ := ogd_some h
    refine go_scr hc hX0 hg24 dL_law_901 ?_
    refine go_aload_n hc dL_law_902 rfl rfl ?_
    refine go_iload hc dL_law_903 rfl ?_
    refine go_iconst hc dL_law_905 ci_3 ?_
    refine go_iadd hc dL_law_906 ?_
    obtain ⟨hg25, h⟩ := ogd_some h
    refine go_scr hc hX0 hg25 dL_law_907 ?_
    refine go_if_eq (tgt := 915) hc dL_law_908 rfl (fun hh => ?_) (fun hh => ?_)
    · rw [if_pos hh] at h
      refine go_iconst hc dL_law_915 ci_0 ?_
      obtain ⟨r26, σ27, hf28, h⟩ := obi_some h
      obtain ⟨hg29, h⟩ := ogd_some h
      refine go_callVl hc ho cmX10_chanceOf mlL_115 dL_law_916 ok_81 (As := [.int (xs (l4 + (1 : Int32)).toNatClampNeg), .int (xs (l4 + (2 : Int32)).toNatClampNeg), .int (0 : Int32)]) (rest := [.long r19]) (rX10_chanceOf (N := 6) hf28 (Nat.le_refl _)) rfl (Nat.le_trans (Nat.le_of_ble_eq_true rfl) hN) rfl (Nat.le_of_ble_eq_true rfl) (Or.inr (of_decide_eq_true hg29)) ?_
      refine go_lcmp hc dL_law_919 ?_
      refine go_if_eq (tgt := 1876) hc dL_law_920 rfl (fun hh => ?_) (fun hh => ?_)
      · rw [if_pos hh] at h
        refine go_iinc hc (lv1 := [.ref 100, .ref 0, .ref 81, .ref 94, .int (l4 + 6), .null, .null]) dL_law_1876 rfl ci_6 hL (by decide) (fun _ _ e => by cases e; rfl) rfl ?_
        refine go_goto (tgt := 23) hc dL_law_1879 rfl ?_
        exact hrc23 (l4 + 6) _ h
      · rw [if_neg hh] at h
        refine go_iconst hc dL_law_923 ci_0 ?_
        exact (ol01 h).elim
    · rw [if_neg hh] at h
      refine go_iconst hc dL_law_911 ci_1 ?_
      refine go_goto (tgt := 916) hc dL_law_912 rfl ?_
      obtain ⟨r30, σ31, hf32, h⟩ := obi_some h
      obtain ⟨hg33, h⟩ := ogd_some h
      refine go_callVl hc ho cmX10_chanceOf mlL_115 dL_law_916 ok_81 (As := [.int (xs (l4 + (1 : Int32)).toNatClampNeg), .int (xs (l4 + (2 : Int32)).toNatClampNeg), .int (1 : Int32)]) (rest := [.long r19]) (rX10_chanceOf (N := 6) hf32 (Nat.le_refl _)) rfl (Nat.le_trans (Nat.le_of_ble_eq_true rfl) hN) rfl (Nat.le_of_ble_eq_true rfl) (Or.inr (of_decide_eq_true hg33)) ?_
      refine go_lcmp hc dL_law_919 ?_
      refine go_if_eq (tgt := 1876) hc dL_law_920 rfl (fun hh => ?_) (fun hh => ?_)
      · rw [if_pos hh] at h
        refine go_iinc hc (lv1 := [.ref 100, .ref 0, .ref 81, .ref 94, .int (l4 + 6), .null, .null]) dL_law_1876 rfl ci_6 hL (by decide) (fun _ _ e => by cases e; rfl) rfl ?_
        refine go_goto (tgt := 23) hc dL_law_1879 rfl ?_
        exact hrc23 (l4 + 6) _ h
      · rw [if_neg hh] at h
        refine go_iconst hc dL_law_923 ci_0 ?_
        exact (ol01 h).elim
def fL_law_b834 (xs : Nat → Int32) (L : Nat) (rc23 : Int32 → OM → Option (Int32 × OM)) (l4 : Int32) (σ : OM) : Option (Int32 × OM) :=
  ogd (oin (l4 + (1 : Int32)) L) (
  obi (fX9_likeliest (xs (l4 + (1 : Int32)).toNatClampNeg) σ) (fun r2 σ3 =>
  ogd (decide (mR σ3 96 0 = mR σ 96 0)) (
  ogd (oin (l4 + (1 : Int32)) L) (
  obi (fX10_likeliest (xs (l4 + (1 : Int32)).toNatClampNeg) σ3) (fun r7 σ8 =>
  ogd (decide (mR σ8 96 0 = mR σ3 96 0)) (
  if r2 = r7 then (
   rc23 (l4 + 6) σ8)
  else (some ((0 : Int32), σ8))))))))
set_option maxRecDepth 100000 in
set_option maxHeartbeats 4000000 in
theorem rL_law_b834 {K : OK} (hc : kcc K = code) (ho : kow K = RL) (hL : knL K = 7) (hN : 1300 ≤ kN K) {xs : Nat → Int32} {L : Nat} (hX0 : oLx K L xs) (hlx : oLz K) {σ0 : OM} {rc23 : Int32 → OM → Option (Int32 × OM)} (hrc23 : ∀ (l4 : Int32) (σ : OM), rc23 l4 σ = some ((1 : Int32), σ0) → Go K 23 [.ref 100, .ref 0, .ref 81, .ref 94, .int l4, .null, .null] [] σ) {l4 : Int32} {σ : OM} (h : fL_law_b834 xs L rc23 l4 σ = some ((1 : Int32), σ0)) : Go K 834 [.ref 100, .ref 0, .ref 81, .ref 94, .int l4, .null, .null] [] σ := by
  unfold fL_law_b834 at h
  refine go_aload_n hc dL_law_834 rfl rfl ?_
  refine go_aload_n hc dL_law_835 rfl rfl ?_
  refine go_iload hc dL_law_836 rfl ?_
  refine go_iconst hc dL_law_838 ci_1 ?_
  refine go_iadd hc dL_law_839 ?_
  obtain ⟨hg1, h⟩ := ogd_some h
  refine go_scr hc hX0 hg1 dL_law_840 ?_
  obtain ⟨r2, σ3, hf4, h⟩ := obi_some h
  obtain ⟨hg5, h⟩ := ogd_some h
  refine go_callVi hc ho cmX9_likeliest mlL_107 dL_law_841 ok_0 (As := [.int (xs (l4 + (1 : Int32)).toNatClampNeg)]) (rest := []) (rX9_likeliest (N := 5) hf4 (Nat.le_refl _)) rfl (Nat.le_trans (Nat.le_of_ble_eq_true rfl) hN) rfl (Nat.le_of_ble_eq_true rfl) (Or.inr (of_decide_eq_true hg5)) ?_
  refine go_aload_n hc dL_law_844 rfl rfl ?_
  refine go_aload_n hc dL_law_845 rfl rfl ?_
  refine go_iload hc dL_law_846 rfl ?_
  refine go_iconst hc dL_law_848 ci_1 ?_
  refine go_iadd hc dL_law_849 ?_
  obtain ⟨hg6, h⟩ := ogd_some h
  refine go_scr hc hX0 hg6 dL_law_850 ?_
  obtain ⟨r7, σ8, hf9, h⟩ := obi_some h
  obtain ⟨hg10, h⟩ := ogd_some h
  refine go_callVi hc ho cmX10_likeliest mlL_110 dL_law_851 ok_81 (As := [.int (xs (l4 + (1 : Int32)).toNatClampNeg)]) (rest := [.int r2]) (rX10_likeliest (N := 6) hf9 (Nat.le_refl _)) rfl (Nat.le_trans (Nat.le_of_ble_eq_true rfl) hN) rfl (Nat.le_of_ble_eq_true rfl) (Or.inr (of_decide_eq_true hg10)) ?_
  refine go_icmp_eq (tgt := 1876) hc dL_law_854 rfl (fun hh => ?_) (fun hh => ?_)
  · rw [if_pos hh] at h
    refine go_iinc hc (lv1 := [.ref 100, .ref 0, .ref 81, .ref 94, .int (l4 + 6), .null, .null]) dL_law_1876 rfl ci_6 hL (by decide) (fun _ _ e => by cases e; rfl) rfl ?_
    refine go_goto (tgt := 23) hc dL_law_1879 rfl ?_
    exact hrc23 (l4 + 6) _ h
  · rw [if_neg hh] at h
    refine go_iconst hc dL_law_857 ci_0 ?_
    exact (ol01 h).elim
def fL_law_b821 (xs : Nat → Int32) (L : Nat) (rc23 : Int32 → OM → Option (Int32 × OM)) (l4 : Int32) (σ : OM) : Option (Int32 × OM) :=
  obi (fX9_bestWedding σ) (fun r1 σ2 =>
  ogd (decide (mR σ2 96 0 = mR σ 96 0)) (
  obi (fX10_bestWedding σ2) (fun r5 σ6 =>
  ogd (decide (mR σ6 96 0 = mR σ2 96 0)) (
  if r1 = r5 then (
   rc23 (l4 + 6) σ6)
  else (some ((0 : Int32), σ6))))))
set_option maxRecDepth 100000 in
set_option maxHeartbeats 4000000 in
theorem rL_law_b821 {K : OK} (hc : kcc K = code) (ho : kow K = RL) (hL : knL K = 7) (hN : 1300 ≤ kN K) {xs : Nat → Int32} {L : Nat} (hX0 : oLx K L xs) (hlx : oLz K) {σ0 : OM} {rc23 : Int32 → OM → Option (Int32 × OM)} (hrc23 : ∀ (l4 : Int32) (σ : OM), rc23 l4 σ = some ((1 : Int32), σ0) → Go K 23 [.ref 100, .ref 0, .ref 81, .ref 94, .int l4, .null, .null] [] σ) {l4 : Int32} {σ : OM} (h : fL_law_b821 xs L rc23 l4 σ = some ((1 : Int32), σ0)) : Go K 821 [.ref 100, .ref 0, .ref 81, .ref 94, .int l4, .null, .null] [] σ := by
  unfold fL_law_b821 at h
  refine go_aload_n hc dL_law_821 rfl rfl ?_
  obtain ⟨r1, σ2, hf3, h⟩ := obi_some h
  obtain ⟨hg4, h⟩ := ogd_some h
  refine go_callVi hc ho cmX9_bestWedding mlL_103 dL_law_822 ok_0 (As := []) (rest := []) (rX9_bestWedding (N := 6) hf3 (Nat.le_refl _)) rfl (Nat.le_trans (Nat.le_of_ble_eq_true rfl) hN) rfl (Nat.le_of_ble_eq_true rfl) (Or.inr (of_decide_eq_true hg4)) ?_
  refine go_aload_n hc dL_law_825 rfl rfl ?_
  obtain ⟨r5, σ6, hf7, h⟩ := obi_some h
  obtain ⟨hg8, h⟩ := ogd_some h
  refine go_callVi hc ho cmX10_bestWedding mlL_106 dL_law_826 ok_81 (As := []) (rest := [.int r1]) (rX10_bestWedding (N := 6) hf7 (Nat.le_refl _)) rfl (Nat.le_trans (Nat.le_of_ble_eq_true rfl) hN) rfl (Nat.le_of_ble_eq_true rfl) (Or.inr (of_decide_eq_true hg8)) ?_
  refine go_icmp_eq (tgt := 1876) hc dL_law_829 rfl (fun hh => ?_) (fun hh => ?_)
  · rw [if_pos hh] at h
    refine go_iinc hc (lv1 := [.ref 100, .ref 0, .ref 81, .ref 94, .int (l4 + 6), .null, .null]) dL_law_1876 rfl ci_6 hL (by decide) (fun _ _ e => by cases e; rfl) rfl ?_
    refine go_goto (tgt := 23) hc dL_law_1879 rfl ?_
    exact hrc23 (l4 + 6) _ h
  · rw [if_neg hh] at h
    refine go_iconst hc dL_law_832 ci_0 ?_
    exact (ol01 h).elim
def fL_law_b808 (xs : Nat → Int32) (L : Nat) (rc23 : Int32 → OM → Option (Int32 × OM)) (l4 : Int32) (σ : OM) : Option (Int32 × OM) :=
  obi (fX9_onlyTogether σ) (fun r1 σ2 =>
  ogd (decide (mR σ2 96 0 = mR σ 96 0)) (
  obi (fX10_onlyTogether σ2) (fun r5 σ6 =>
  ogd (decide (mR σ6 96 0 = mR σ2 96 0)) (
  if r1 = r5 then (
   rc23 (l4 + 6) σ6)
  else (some ((0 : Int32), σ6))))))
set_option maxRecDepth 100000 in
set_option maxHeartbeats 4000000 in
theorem rL_law_b808 {K : OK} (hc : kcc K = code) (ho : kow K = RL) (hL : knL K = 7) (hN : 1300 ≤ kN K) {xs : Nat → Int32} {L : Nat} (hX0 : oLx K L xs) (hlx : oLz K) {σ0 : OM} {rc23 : Int32 → OM → Option (Int32 × OM)} (hrc23 : ∀ (l4 : Int32) (σ : OM), rc23 l4 σ = some ((1 : Int32), σ0) → Go K 23 [.ref 100, .ref 0, .ref 81, .ref 94, .int l4, .null, .null] [] σ) {l4 : Int32} {σ : OM} (h : fL_law_b808 xs L rc23 l4 σ = some ((1 : Int32), σ0)) : Go K 808 [.ref 100, .ref 0, .ref 81, .ref 94, .int l4, .null, .null] [] σ := by
  unfold fL_law_b808 at h
  refine go_aload_n hc dL_law_808 rfl rfl ?_
  obtain ⟨r1, σ2, hf3, h⟩ := obi_some h
  obtain ⟨hg4, h⟩ := ogd_some h
  refine go_callVi hc ho cmX9_onlyTogether mlL_99 dL_law_809 ok_0 (As := []) (rest := []) (rX9_onlyTogether (N := 5) hf3 (Nat.le_refl _)) rfl (Nat.le_trans (Nat.le_of_ble_eq_true rfl) hN) rfl (Nat.le_of_ble_eq_true rfl) (Or.inr (of_decide_eq_true hg4)) ?_
  refine go_aload_n hc dL_law_812 rfl rfl ?_
  obtain ⟨r5, σ6, hf7, h⟩ := obi_some h
  obtain ⟨hg8, h⟩ := ogd_some h
  refine go_callVi hc ho cmX10_onlyTogether mlL_102 dL_law_813 ok_81 (As := []) (rest := [.int r1]) (rX10_onlyTogether (N := 6) hf7 (Nat.le_refl _)) rfl (Nat.le_trans (Nat.le_of_ble_eq_true rfl) hN) rfl (Nat.le_of_ble_eq_true rfl) (Or.inr (of_decide_eq_true hg8)) ?_
  refine go_icmp_eq (tgt := 1876) hc dL_law_816 rfl (fun hh => ?_) (fun hh => ?_)
  · rw [if_pos hh] at h
    refine go_iinc hc (lv1 := [.ref 100, .ref 0, .ref 81, .ref 94, .int (l4 + 6), .null, .null]) dL_law_1876 rfl ci_6 hL (by decide) (fun _ _ e => by cases e; rfl) rfl ?_
    refine go_goto (tgt := 23) hc dL_law_1879 rfl ?_
    exact hrc23 (l4 + 6) _ h
  · rw [if_neg hh] at h
    refine go_iconst hc dL_law_819 ci_0 ?_
    exact (ol01 h).elim
def fL_law_b783 (xs : Nat → Int32) (L : Nat) (rc23 : Int32 → OM → Option (Int32 × OM)) (l4 : Int32) (σ : OM) : Option (Int32 × OM) :=
  ogd (oin (l4 + (1 : Int32)) L) (
  obi (fX9_knownByAll (xs (l4 + (1 : Int32)).toNatClampNeg) σ) (fun r2 σ3 =>
  ogd (decide (mR σ3 96 0 = mR σ 96 0)) (
  ogd (oin (l4 + (1 : Int32)) L) (
  obi (fX10_knownByAll (xs (l4 + (1 : Int32)).toNatClampNeg) σ3) (fun r7 σ8 =>
  ogd (decide (mR σ8 96 0 = mR σ3 96 0)) (
  if r2 = r7 then (
   rc23 (l4 + 6) σ8)
  else (some ((0 : Int32), σ8))))))))
set_option maxRecDepth 100000 in
set_option maxHeartbeats 4000000 in
theorem rL_law_b783 {K : OK} (hc : kcc K = code) (ho : kow K = RL) (hL : knL K = 7) (hN : 1300 ≤ kN K) {xs : Nat → Int32} {L : Nat} (hX0 : oLx K L xs) (hlx : oLz K) {σ0 : OM} {rc23 : Int32 → OM → Option (Int32 × OM)} (hrc23 : ∀ (l4 : Int32) (σ : OM), rc23 l4 σ = some ((1 : Int32), σ0) → Go K 23 [.ref 100, .ref 0, .ref 81, .ref 94, .int l4, .null, .null] [] σ) {l4 : Int32} {σ : OM} (h : fL_law_b783 xs L rc23 l4 σ = some ((1 : Int32), σ0)) : Go K 783 [.ref 100, .ref 0, .ref 81, .ref 94, .int l4, .null, .null] [] σ := by
  unfold fL_law_b783 at h
  refine go_aload_n hc dL_law_783 rfl rfl ?_
  refine go_aload_n hc dL_law_784 rfl rfl ?_
  refine go_iload hc dL_law_785 rfl ?_
  refine go_iconst hc dL_law_787 ci_1 ?_
  refine go_iadd hc dL_law_788 ?_
  obtain ⟨hg1, h⟩ := ogd_some h
  refine go_scr hc hX0 hg1 dL_law_789 ?_
  obtain ⟨r2, σ3, hf4, h⟩ := obi_some h
  obtain ⟨hg5, h⟩ := ogd_some h
  refine go_callVi hc ho cmX9_knownByAll mlL_95 dL_law_790 ok_0 (As := [.int (xs (l4 + (1 : Int32)).toNatClampNeg)]) (rest := []) (rX9_knownByAll (N := 5) hf4 (Nat.le_refl _)) rfl (Nat.le_trans (Nat.le_of_ble_eq_true rfl) hN) rfl (Nat.le_of_ble_eq_true rfl) (Or.inr (of_decide_eq_true hg5)) ?_
  refine go_aload_n hc dL_law_793 rfl rfl ?_
  refine go_aload_n hc dL_law_794 rfl rfl ?_
  refine go_iload hc dL_law_795 rfl ?_
  refine go_iconst hc dL_law_797 ci_1 ?_
  refine go_iadd hc dL_law_798 ?_
  obtain ⟨hg6, h⟩ := ogd_some h
  refine go_scr hc hX0 hg6 dL_law_799 ?_
  obtain ⟨r7, σ8, hf9, h⟩ := obi_some h
  obtain ⟨hg10, h⟩ := ogd_some h
  refine go_callVi hc ho cmX10_knownByAll mlL_98 dL_law_800 ok_81 (As := [.int (xs (l4 + (1 : Int32)).toNatClampNeg)]) (rest := [.int r2]) (rX10_knownByAll (N := 6) hf9 (Nat.le_refl _)) rfl (Nat.le_trans (Nat.le_of_ble_eq_true rfl) hN) rfl (Nat.le_of_ble_eq_true rfl) (Or.inr (of_decide_eq_true hg10)) ?_
  refine go_icmp_eq (tgt := 1876) hc dL_law_803 rfl (fun hh => ?_) (fun hh => ?_)
  · rw [if_pos hh] at h
    refine go_iinc hc (lv1 := [.ref 100, .ref 0, .ref 81, .ref 94, .int (l4 + 6), .null, .null]) dL_law_1876 rfl ci_6 hL (by decide) (fun _ _ e => by cases e; rfl) rfl ?_
    refine go_goto (tgt := 23) hc dL_law_1879 rfl ?_
    exact hrc23 (l4 + 6) _ h
  · rw [if_neg hh] at h
    refine go_iconst hc dL_law_806 ci_0 ?_
    exact (ol01 h).elim
def fL_law_b746 (xs : Nat → Int32) (L : Nat) (rc23 : Int32 → OM → Option (Int32 × OM)) (l4 : Int32) (σ : OM) : Option (Int32 × OM) :=
  ogd (oin (l4 + (1 : Int32)) L) (
  ogd (oin (l4 + (2 : Int32)) L) (
  obi (fX9_fact (xs (l4 + (1 : Int32)).toNatClampNeg) (xs (l4 + (2 : Int32)).toNatClampNeg) σ) (fun r3 σ4 =>
  ogd (decide (mR σ4 96 0 = mR σ 96 0)) (
  ogd (oin (l4 + (1 : Int32)) L) (
  ogd (oin (l4 + (2 : Int32)) L) (
  obi (fX10_fact (xs (l4 + (1 : Int32)).toNatClampNeg) (xs (l4 + (2 : Int32)).toNatClampNeg) σ4) (fun r9 σ10 =>
  ogd (decide (mR σ10 96 0 = mR σ4 96 0)) (
  if r3 = r9 then (
   rc23 (l4 + 6) σ10)
  else (some ((0 : Int32), σ10))))))))))
set_option maxRecDepth 100000 in
set_option maxHeartbeats 4000000 in
theorem rL_law_b746 {K : OK} (hc : kcc K = code) (ho : kow K = RL) (hL : knL K = 7) (hN : 1300 ≤ kN K) {xs : Nat → Int32} {L : Nat} (hX0 : oLx K L xs) (hlx : oLz K) {σ0 : OM} {rc23 : Int32 → OM → Option (Int32 × OM)} (hrc23 : ∀ (l4 : Int32) (σ : OM), rc23 l4 σ = some ((1 : Int32), σ0) → Go K 23 [.ref 100, .ref 0, .ref 81, .ref 94, .int l4, .null, .null] [] σ) {l4 : Int32} {σ : OM} (h : fL_law_b746 xs L rc23 l4 σ = some ((1 : Int32), σ0)) : Go K 746 [.ref 100, .ref 0, .ref 81, .ref 94, .int l4, .null, .null] [] σ := by
  unfold fL_law_b746 at h
  refine go_aload_n hc dL_law_746 rfl rfl ?_
  refine go_aload_n hc dL_law_747 rfl rfl ?_
  refine go_iload hc dL_law_748 rfl ?_
  refine go_iconst hc dL_law_750 ci_1 ?_
  refine go_iadd hc dL_law_751 ?_
  obtain ⟨hg1, h⟩ := ogd_some h
  refine go_scr hc hX0 hg1 dL_law_752 ?_
  refine go_aload_n hc dL_law_753 rfl rfl ?_
  refine go_iload hc dL_law_754 rfl ?_
  refine go_iconst hc dL_law_756 ci_2 ?_
  refine go_iadd hc dL_law_757 ?_
  obtain ⟨hg2, h⟩ := ogd_some h
  refine go_scr hc hX0 hg2 dL_law_758 ?_
  obtain ⟨r3, σ4, hf5, h⟩ := obi_some h
  obtain ⟨hg6, h⟩ := ogd_some h
  refine go_callVi hc ho cmX9_fact mlL_91 dL_law_759 ok_0 (As := [.int (xs (l4 + (1 : Int32)).toNatClampNeg), .int (xs (l4 + (2 : Int32)).toNatClampNeg)]) (rest := []) (rX9_fact (N := 5) hf5 (Nat.le_refl _)) rfl (Nat.le_trans (Nat.le_of_ble_eq_true rfl) hN) rfl (Nat.le_of_ble_eq_true rfl) (Or.inr (of_decide_eq_true hg6)) ?_
  refine go_aload_n hc dL_law_762 rfl rfl ?_
  refine go_aload_n hc dL_law_763 rfl rfl ?_
  refine go_iload hc dL_law_764 rfl ?_
  refine go_iconst hc dL_law_766 ci_1 ?_
  refine go_iadd hc dL_law_767 ?_
  obtain ⟨hg7, h⟩ := ogd_some h
  refine go_scr hc hX0 hg7 dL_law_768 ?_
  refine go_aload_n hc dL_law_769 rfl rfl ?_
  refine go_iload hc dL_law_770 rfl ?_
  refine go_iconst hc dL_law_772 ci_2 ?_
  refine go_iadd hc dL_law_773 ?_
  obtain ⟨hg8, h⟩ := ogd_some h
  refine go_scr hc hX0 hg8 dL_law_774 ?_
  obtain ⟨r9, σ10, hf11, h⟩ := obi_some h
  obtain ⟨hg12, h⟩ := ogd_some h
  refine go_callVi hc ho cmX10_fact mlL_94 dL_law_775 ok_81 (As := [.int (xs (l4 + (1 : Int32)).toNatClampNeg), .int (xs (l4 + (2 : Int32)).toNatClampNeg)]) (rest := [.int r3]) (rX10_fact (N := 6) hf11 (Nat.le_refl _)) rfl (Nat.le_trans (Nat.le_of_ble_eq_true rfl) hN) rfl (Nat.le_of_ble_eq_true rfl) (Or.inr (of_decide_eq_true hg12)) ?_
  refine go_icmp_eq (tgt := 1876) hc dL_law_778 rfl (fun hh => ?_) (fun hh => ?_)
  · rw [if_pos hh] at h
    refine go_iinc hc (lv1 := [.ref 100, .ref 0, .ref 81, .ref 94, .int (l4 + 6), .null, .null]) dL_law_1876 rfl ci_6 hL (by decide) (fun _ _ e => by cases e; rfl) rfl ?_
    refine go_goto (tgt := 23) hc dL_law_1879 rfl ?_
    exact hrc23 (l4 + 6) _ h
  · rw [if_neg hh] at h
    refine go_iconst hc dL_law_781 ci_0 ?_
    exact (ol01 h).elim
def fL_law_b709 (xs : Nat → Int32) (L : Nat) (rc23 : Int32 → OM → Option (Int32 × OM)) (l4 : Int32) (σ : OM) : Option (Int32 × OM) :=
  ogd (oin (l4 + (1 : Int32)) L) (
  ogd (oin (l4 + (2 : Int32)) L) (
  obi (fX9_known (xs (l4 + (1 : Int32)).toNatClampNeg) (xs (l4 + (2 : Int32)).toNatClampNeg) σ) (fun r3 σ4 =>
  ogd (decide (mR σ4 96 0 = mR σ 96 0)) (
  ogd (oin (l4 + (1 : Int32)) L) (
  ogd (oin (l4 + (2 : Int32)) L) (
  obi (fX10_known (xs (l4 + (1 : Int32)).toNatClampNeg) (xs (l4 + (2 : Int32)).toNatClampNeg) σ4) (fun r9 σ10 =>
  ogd (decide (mR σ10 96 0 = mR σ4 96 0)) (
  if r3 = r9 then (
   rc23 (l4 + 6) σ10)
  else (some ((0 : Int32), σ10))))))))))
set_option maxRecDepth 100000 in
set_option maxHeartbeats 4000000 in
theorem rL_law_b709 {K : OK} (hc : kcc K = code) (ho : kow K = RL) (hL : knL K = 7) (hN : 1300 ≤ kN K) {xs : Nat → Int32} {L : Nat} (hX0 : oLx K L xs) (hlx : oLz K) {σ0 : OM} {rc23 : Int32 → OM → Option (Int32 × OM)} (hrc23 : ∀ (l4 : Int32) (σ : OM), rc23 l4 σ = some ((1 : Int32), σ0) → Go K 23 [.ref 100, .ref 0, .ref 81, .ref 94, .int l4, .null, .null] [] σ) {l4 : Int32} {σ : OM} (h : fL_law_b709 xs L rc23 l4 σ = some ((1 : Int32), σ0)) : Go K 709 [.ref 100, .ref 0, .ref 81, .ref 94, .int l4, .null, .null] [] σ := by
  unfold fL_law_b709 at h
  refine go_aload_n hc dL_law_709 rfl rfl ?_
  refine go_aload_n hc dL_law_710 rfl rfl ?_
  refine go_iload hc dL_law_711 rfl ?_
  refine go_iconst hc dL_law_713 ci_1 ?_
  refine go_iadd hc dL_law_714 ?_
  obtain ⟨hg1, h⟩ := ogd_some h
  refine go_scr hc hX0 hg1 dL_law_715 ?_
  refine go_aload_n hc dL_law_716 rfl rfl ?_
  refine go_iload hc dL_law_717 rfl ?_
  refine go_iconst hc dL_law_719 ci_2 ?_
  refine go_iadd hc dL_law_720 ?_
  obtain ⟨hg2, h⟩ := ogd_some h
  refine go_scr hc hX0 hg2 dL_law_721 ?_
  obtain ⟨r3, σ4, hf5, h⟩ := obi_some h
  obtain ⟨hg6, h⟩ := ogd_some h
  refine go_callVi hc ho cmX9_known mlL_87 dL_law_722 ok_0 (As := [.int (xs (l4 + (1 : Int32)).toNatClampNeg), .int (xs (l4 + (2 : Int32)).toNatClampNeg)]) (rest := []) (rX9_known (N := 5) hf5 (Nat.le_refl _)) rfl (Nat.le_trans (Nat.le_of_ble_eq_true rfl) hN) rfl (Nat.le_of_ble_eq_true rfl) (Or.inr (of_decide_eq_true hg6)) ?_
  refine go_aload_n hc dL_law_725 rfl rfl ?_
  refine go_aload_n hc dL_law_726 rfl rfl ?_
  refine go_iload hc dL_law_727 rfl ?_
  refine go_iconst hc dL_law_729 ci_1 ?_
  refine go_iadd hc dL_law_730 ?_
  obtain ⟨hg7, h⟩ := ogd_some h
  refine go_scr hc hX0 hg7 dL_law_731 ?_
  refine go_aload_n hc dL_law_732 rfl rfl ?_
  refine go_iload hc dL_law_733 rfl ?_
  refine go_iconst hc dL_law_735 ci_2 ?_
  refine go_iadd hc dL_law_736 ?_
  obtain ⟨hg8, h⟩ := ogd_some h
  refine go_scr hc hX0 hg8 dL_law_737 ?_
  obtain ⟨r9, σ10, hf11, h⟩ := obi_some h
  obtain ⟨hg12, h⟩ := ogd_some h
  refine go_callVi hc ho cmX10_known mlL_90 dL_law_738 ok_81 (As := [.int (xs (l4 + (1 : Int32)).toNatClampNeg), .int (xs (l4 + (2 : Int32)).toNatClampNeg)]) (rest := [.int r3]) (rX10_known (N := 6) hf11 (Nat.le_refl _)) rfl (Nat.le_trans (Nat.le_of_ble_eq_true rfl) hN) rfl (Nat.le_of_ble_eq_true rfl) (Or.inr (of_decide_eq_true hg12)) ?_
  refine go_icmp_eq (tgt := 1876) hc dL_law_741 rfl (fun hh => ?_) (fun hh => ?_)
  · rw [if_pos hh] at h
    refine go_iinc hc (lv1 := [.ref 100, .ref 0, .ref 81, .ref 94, .int (l4 + 6), .null, .null]) dL_law_1876 rfl ci_6 hL (by decide) (fun _ _ e => by cases e; rfl) rfl ?_
    refine go_goto (tgt := 23) hc dL_law_1879 rfl ?_
    exact hrc23 (l4 + 6) _ h
  · rw [if_neg hh] at h
    refine go_iconst hc dL_law_744 ci_0 ?_
    exact (ol01 h).elim
def fL_law_b684 (xs : Nat → Int32) (L : Nat) (rc23 : Int32 → OM → Option (Int32 × OM)) (l4 : Int32) (σ : OM) : Option (Int32 × OM) :=
  ogd (oin (l4 + (1 : Int32)) L) (
  obi (fX9_left (xs (l4 + (1 : Int32)).toNatClampNeg) σ) (fun r2 σ3 =>
  ogd (decide (mR σ3 96 0 = mR σ 96 0)) (
  ogd (oin (l4 + (1 : Int32)) L) (
  obi (fX10_left (xs (l4 + (1 : Int32)).toNatClampNeg) σ3) (fun r7 σ8 =>
  ogd (decide (mR σ8 96 0 = mR σ3 96 0)) (
  if r2 = r7 then (
   rc23 (l4 + 6) σ8)
  else (some ((0 : Int32), σ8))))))))
set_option maxRecDepth 100000 in
set_option maxHeartbeats 4000000 in
theorem rL_law_b684 {K : OK} (hc : kcc K = code) (ho : kow K = RL) (hL : knL K = 7) (hN : 1300 ≤ kN K) {xs : Nat → Int32} {L : Nat} (hX0 : oLx K L xs) (hlx : oLz K) {σ0 : OM} {rc23 : Int32 → OM → Option (Int32 × OM)} (hrc23 : ∀ (l4 : Int32) (σ : OM), rc23 l4 σ = some ((1 : Int32), σ0) → Go K 23 [.ref 100, .ref 0, .ref 81, .ref 94, .int l4, .null, .null] [] σ) {l4 : Int32} {σ : OM} (h : fL_law_b684 xs L rc23 l4 σ = some ((1 : Int32), σ0)) : Go K 684 [.ref 100, .ref 0, .ref 81, .ref 94, .int l4, .null, .null] [] σ := by
  unfold fL_law_b684 at h
  refine go_aload_n hc dL_law_684 rfl rfl ?_
  refine go_aload_n hc dL_law_685 rfl rfl ?_
  refine go_iload hc dL_law_686 rfl ?_
  refine go_iconst hc dL_law_688 ci_1 ?_
  refine go_iadd hc dL_law_689 ?_
  obtain ⟨hg1, h⟩ := ogd_some h
  refine go_scr hc hX0 hg1 dL_law_690 ?_
  obtain ⟨r2, σ3, hf4, h⟩ := obi_some h
  obtain ⟨hg5, h⟩ := ogd_some h
  refine go_callVi hc ho cmX9_left mlL_83 dL_law_691 ok_0 (As := [.int (xs (l4 + (1 : Int32)).toNatClampNeg)]) (rest := []) (rX9_left (N := 5) hf4 (Nat.le_refl _)) rfl (Nat.le_trans (Nat.le_of_ble_eq_true rfl) hN) rfl (Nat.le_of_ble_eq_true rfl) (Or.inr (of_decide_eq_true hg5)) ?_
  refine go_aload_n hc dL_law_694 rfl rfl ?_
  refine go_aload_n hc dL_law_695 rfl rfl ?_
  refine go_iload hc dL_law_696 rfl ?_
  refine go_iconst hc dL_law_698 ci_1 ?_
  refine go_iadd hc dL_law_699 ?_
  obtain ⟨hg6, h⟩ := ogd_some h
  refine go_scr hc hX0 hg6 dL_law_700 ?_
  obtain ⟨r7, σ8, hf9, h⟩ := obi_some h
  obtain ⟨hg10, h⟩ := ogd_some h
  refine go_callVi hc ho cmX10_left mlL_86 dL_law_701 ok_81 (As := [.int (xs (l4 + (1 : Int32)).toNatClampNeg)]) (rest := [.int r2]) (rX10_left (N := 6) hf9 (Nat.le_refl _)) rfl (Nat.le_trans (Nat.le_of_ble_eq_true rfl) hN) rfl (Nat.le_of_ble_eq_true rfl) (Or.inr (of_decide_eq_true hg10)) ?_
  refine go_icmp_eq (tgt := 1876) hc dL_law_704 rfl (fun hh => ?_) (fun hh => ?_)
  · rw [if_pos hh] at h
    refine go_iinc hc (lv1 := [.ref 100, .ref 0, .ref 81, .ref 94, .int (l4 + 6), .null, .null]) dL_law_1876 rfl ci_6 hL (by decide) (fun _ _ e => by cases e; rfl) rfl ?_
    refine go_goto (tgt := 23) hc dL_law_1879 rfl ?_
    exact hrc23 (l4 + 6) _ h
  · rw [if_neg hh] at h
    refine go_iconst hc dL_law_707 ci_0 ?_
    exact (ol01 h).elim
def fL_law_b659 (xs : Nat → Int32) (L : Nat) (rc23 : Int32 → OM → Option (Int32 × OM)) (l4 : Int32) (σ : OM) : Option (Int32 × OM) :=
  ogd (oin (l4 + (1 : Int32)) L) (
  obi (fX9_kin (xs (l4 + (1 : Int32)).toNatClampNeg) σ) (fun r2 σ3 =>
  ogd (decide (mR σ3 96 0 = mR σ 96 0)) (
  ogd (oin (l4 + (1 : Int32)) L) (
  obi (fX10_kin (xs (l4 + (1 : Int32)).toNatClampNeg) σ3) (fun r7 σ8 =>
  ogd (decide (mR σ8 96 0 = mR σ3 96 0)) (
  if r2 = r7 then (
   rc23 (l4 + 6) σ8)
  else (some ((0 : Int32), σ8))))))))
set_option maxRecDepth 100000 in
set_option maxHeartbeats 4000000 in
theorem rL_law_b659 {K : OK} (hc : kcc K = code) (ho : kow K = RL) (hL : knL K = 7) (hN : 1300 ≤ kN K) {xs : Nat → Int32} {L : Nat} (hX0 : oLx K L xs) (hlx : oLz K) {σ0 : OM} {rc23 : Int32 → OM → Option (Int32 × OM)} (hrc23 : ∀ (l4 : Int32) (σ : OM), rc23 l4 σ = some ((1 : Int32), σ0) → Go K 23 [.ref 100, .ref 0, .ref 81, .ref 94, .int l4, .null, .null] [] σ) {l4 : Int32} {σ : OM} (h : fL_law_b659 xs L rc23 l4 σ = some ((1 : Int32), σ0)) : Go K 659 [.ref 100, .ref 0, .ref 81, .ref 94, .int l4, .null, .null] [] σ := by
  unfold fL_law_b659 at h
  refine go_aload_n hc dL_law_659 rfl rfl ?_
  refine go_aload_n hc dL_law_660 rfl rfl ?_
  refine go_iload hc dL_law_661 rfl ?_
  refine go_iconst hc dL_law_663 ci_1 ?_
  refine go_iadd hc dL_law_664 ?_
  obtain ⟨hg1, h⟩ := ogd_some h
  refine go_scr hc hX0 hg1 dL_law_665 ?_
  obtain ⟨r2, σ3, hf4, h⟩ := obi_some h
  obtain ⟨hg5, h⟩ := ogd_some h
  refine go_callVi hc ho cmX9_kin mlL_79 dL_law_666 ok_0 (As := [.int (xs (l4 + (1 : Int32)).toNatClampNeg)]) (rest := []) (rX9_kin (N := 2) hf4 (Nat.le_refl _)) rfl (Nat.le_trans (Nat.le_of_ble_eq_true rfl) hN) rfl (Nat.le_of_ble_eq_true rfl) (Or.inr (of_decide_eq_true hg5)) ?_
  refine go_aload_n hc dL_law_669 rfl rfl ?_
  refine go_aload_n hc dL_law_670 rfl rfl ?_
  refine go_iload hc dL_law_671 rfl ?_
  refine go_iconst hc dL_law_673 ci_1 ?_
  refine go_iadd hc dL_law_674 ?_
  obtain ⟨hg6, h⟩ := ogd_some h
  refine go_scr hc hX0 hg6 dL_law_675 ?_
  obtain ⟨r7, σ8, hf9, h⟩ := obi_some h
  obtain ⟨hg10, h⟩ := ogd_some h
  refine go_callVi hc ho cmX10_kin mlL_82 dL_law_676 ok_81 (As := [.int (xs (l4 + (1 : Int32)).toNatClampNeg)]) (rest := [.int r2]) (rX10_kin (N := 2) hf9 (Nat.le_refl _)) rfl (Nat.le_trans (Nat.le_of_ble_eq_true rfl) hN) rfl (Nat.le_of_ble_eq_true rfl) (Or.inr (of_decide_eq_true hg10)) ?_
  refine go_icmp_eq (tgt := 1876) hc dL_law_679 rfl (fun hh => ?_) (fun hh => ?_)
  · rw [if_pos hh] at h
    refine go_iinc hc (lv1 := [.ref 100, .ref 0, .ref 81, .ref 94, .int (l4 + 6), .null, .null]) dL_law_1876 rfl ci_6 hL (by decide) (fun _ _ e => by cases e; rfl) rfl ?_
    refine go_goto (tgt := 23) hc dL_law_1879 rfl ?_
    exact hrc23 (l4 + 6) _ h
  · rw [if_neg hh] at h
    refine go_iconst hc dL_law_682 ci_0 ?_
    exact (ol01 h).elim
def fL_law_b634 (xs : Nat → Int32) (L : Nat) (rc23 : Int32 → OM → Option (Int32 × OM)) (l4 : Int32) (σ : OM) : Option (Int32 × OM) :=
  ogd (oin (l4 + (1 : Int32)) L) (
  obi (fX9_lies (xs (l4 + (1 : Int32)).toNatClampNeg) σ) (fun r2 σ3 =>
  ogd (decide (mR σ3 96 0 = mR σ 96 0)) (
  ogd (oin (l4 + (1 : Int32)) L) (
  obi (fX10_lies (xs (l4 + (1 : Int32)).toNatClampNeg) σ3) (fun r7 σ8 =>
  ogd (decide (mR σ8 96 0 = mR σ3 96 0)) (
  if r2 = r7 then (
   rc23 (l4 + 6) σ8)
  else (some ((0 : Int32), σ8))))))))
set_option maxRecDepth 100000 in
set_option maxHeartbeats 4000000 in
theorem rL_law_b634 {K : OK} (hc : kcc K = code) (ho : kow K = RL) (hL : knL K = 7) (hN : 1300 ≤ kN K) {xs : Nat → Int32} {L : Nat} (hX0 : oLx K L xs) (hlx : oLz K) {σ0 : OM} {rc23 : Int32 → OM → Option (Int32 × OM)} (hrc23 : ∀ (l4 : Int32) (σ : OM), rc23 l4 σ = some ((1 : Int32), σ0) → Go K 23 [.ref 100, .ref 0, .ref 81, .ref 94, .int l4, .null, .null] [] σ) {l4 : Int32} {σ : OM} (h : fL_law_b634 xs L rc23 l4 σ = some ((1 : Int32), σ0)) : Go K 634 [.ref 100, .ref 0, .ref 81, .ref 94, .int l4, .null, .null] [] σ := by
  unfold fL_law_b634 at h
  refine go_aload_n hc dL_law_634 rfl rfl ?_
  refine go_aload_n hc dL_law_635 rfl rfl ?_
  refine go_iload hc dL_law_636 rfl ?_
  refine go_iconst hc dL_law_638 ci_1 ?_
  refine go_iadd hc dL_law_639 ?_
  obtain ⟨hg1, h⟩ := ogd_some h
  refine go_scr hc hX0 hg1 dL_law_640 ?_
  obtain ⟨r2, σ3, hf4, h⟩ := obi_some h
  obtain ⟨hg5, h⟩ := ogd_some h
  refine go_callVi hc ho cmX9_lies mlL_75 dL_law_641 ok_0 (As := [.int (xs (l4 + (1 : Int32)).toNatClampNeg)]) (rest := []) (rX9_lies (N := 1) hf4 (Nat.le_refl _)) rfl (Nat.le_trans (Nat.le_of_ble_eq_true rfl) hN) rfl (Nat.le_of_ble_eq_true rfl) (Or.inr (of_decide_eq_true hg5)) ?_
  refine go_aload_n hc dL_law_644 rfl rfl ?_
  refine go_aload_n hc dL_law_645 rfl rfl ?_
  refine go_iload hc dL_law_646 rfl ?_
  refine go_iconst hc dL_law_648 ci_1 ?_
  refine go_iadd hc dL_law_649 ?_
  obtain ⟨hg6, h⟩ := ogd_some h
  refine go_scr hc hX0 hg6 dL_law_650 ?_
  obtain ⟨r7, σ8, hf9, h⟩ := obi_some h
  obtain ⟨hg10, h⟩ := ogd_some h
  refine go_callVi hc ho cmX10_lies mlL_78 dL_law_651 ok_81 (As := [.int (xs (l4 + (1 : Int32)).toNatClampNeg)]) (rest := [.int r2]) (rX10_lies (N := 4) hf9 (Nat.le_refl _)) rfl (Nat.le_trans (Nat.le_of_ble_eq_true rfl) hN) rfl (Nat.le_of_ble_eq_true rfl) (Or.inr (of_decide_eq_true hg10)) ?_
  refine go_icmp_eq (tgt := 1876) hc dL_law_654 rfl (fun hh => ?_) (fun hh => ?_)
  · rw [if_pos hh] at h
    refine go_iinc hc (lv1 := [.ref 100, .ref 0, .ref 81, .ref 94, .int (l4 + 6), .null, .null]) dL_law_1876 rfl ci_6 hL (by decide) (fun _ _ e => by cases e; rfl) rfl ?_
    refine go_goto (tgt := 23) hc dL_law_1879 rfl ?_
    exact hrc23 (l4 + 6) _ h
  · rw [if_neg hh] at h
    refine go_iconst hc dL_law_657 ci_0 ?_
    exact (ol01 h).elim
def fL_law_b621 (xs : Nat → Int32) (L : Nat) (rc23 : Int32 → OM → Option (Int32 × OM)) (l4 : Int32) (σ : OM) : Option (Int32 × OM) :=
  obi (fX9_sets σ) (fun r1 σ2 =>
  ogd (decide (mR σ2 96 0 = mR σ 96 0)) (
  obi (fX10_sets σ2) (fun r5 σ6 =>
  ogd (decide (mR σ6 96 0 = mR σ2 96 0)) (
  if r1 = r5 then (
   rc23 (l4 + 6) σ6)
  else (some ((0 : Int32), σ6))))))
set_option maxRecDepth 100000 in
set_option maxHeartbeats 4000000 in
theorem rL_law_b621 {K : OK} (hc : kcc K = code) (ho : kow K = RL) (hL : knL K = 7) (hN : 1300 ≤ kN K) {xs : Nat → Int32} {L : Nat} (hX0 : oLx K L xs) (hlx : oLz K) {σ0 : OM} {rc23 : Int32 → OM → Option (Int32 × OM)} (hrc23 : ∀ (l4 : Int32) (σ : OM), rc23 l4 σ = some ((1 : Int32), σ0) → Go K 23 [.ref 100, .ref 0, .ref 81, .ref 94, .int l4, .null, .null] [] σ) {l4 : Int32} {σ : OM} (h : fL_law_b621 xs L rc23 l4 σ = some ((1 : Int32), σ0)) : Go K 621 [.ref 100, .ref 0, .ref 81, .ref 94, .int l4, .null, .null] [] σ := by
  unfold fL_law_b621 at h
  refine go_aload_n hc dL_law_621 rfl rfl ?_
  obtain ⟨r1, σ2, hf3, h⟩ := obi_some h
  obtain ⟨hg4, h⟩ := ogd_some h
  refine go_callVi hc ho cmX9_sets mlL_71 dL_law_622 ok_0 (As := []) (rest := []) (rX9_sets (N := 1) hf3 (Nat.le_refl _)) rfl (Nat.le_trans (Nat.le_of_ble_eq_true rfl) hN) rfl (Nat.le_of_ble_eq_true rfl) (Or.inr (of_decide_eq_true hg4)) ?_
  refine go_aload_n hc dL_law_625 rfl rfl ?_
  obtain ⟨r5, σ6, hf7, h⟩ := obi_some h
  obtain ⟨hg8, h⟩ := ogd_some h
  refine go_callVi hc ho cmX10_sets mlL_74 dL_law_626 ok_81 (As := []) (rest := [.int r1]) (rX10_sets (N := 3) hf7 (Nat.le_refl _)) rfl (Nat.le_trans (Nat.le_of_ble_eq_true rfl) hN) rfl (Nat.le_of_ble_eq_true rfl) (Or.inr (of_decide_eq_true hg8)) ?_
  refine go_icmp_eq (tgt := 1876) hc dL_law_629 rfl (fun hh => ?_) (fun hh => ?_)
  · rw [if_pos hh] at h
    refine go_iinc hc (lv1 := [.ref 100, .ref 0, .ref 81, .ref 94, .int (l4 + 6), .null, .null]) dL_law_1876 rfl ci_6 hL (by decide) (fun _ _ e => by cases e; rfl) rfl ?_
    refine go_goto (tgt := 23) hc dL_law_1879 rfl ?_
    exact hrc23 (l4 + 6) _ h
  · rw [if_neg hh] at h
    refine go_iconst hc dL_law_632 ci_0 ?_
    exact (ol01 h).elim
def fL_law_b608 (xs : Nat → Int32) (L : Nat) (rc23 : Int32 → OM → Option (Int32 × OM)) (l4 : Int32) (σ : OM) : Option (Int32 × OM) :=
  obi (fX9_liars σ) (fun r1 σ2 =>
  ogd (decide (mR σ2 96 0 = mR σ 96 0)) (
  obi (fX10_liars σ2) (fun r5 σ6 =>
  ogd (decide (mR σ6 96 0 = mR σ2 96 0)) (
  if r1 = r5 then (
   rc23 (l4 + 6) σ6)
  else (some ((0 : Int32), σ6))))))
set_option maxRecDepth 100000 in
set_option maxHeartbeats 4000000 in
theorem rL_law_b608 {K : OK} (hc : kcc K = code) (ho : kow K = RL) (hL : knL K = 7) (hN : 1300 ≤ kN K) {xs : Nat → Int32} {L : Nat} (hX0 : oLx K L xs) (hlx : oLz K) {σ0 : OM} {rc23 : Int32 → OM → Option (Int32 × OM)} (hrc23 : ∀ (l4 : Int32) (σ : OM), rc23 l4 σ = some ((1 : Int32), σ0) → Go K 23 [.ref 100, .ref 0, .ref 81, .ref 94, .int l4, .null, .null] [] σ) {l4 : Int32} {σ : OM} (h : fL_law_b608 xs L rc23 l4 σ = some ((1 : Int32), σ0)) : Go K 608 [.ref 100, .ref 0, .ref 81, .ref 94, .int l4, .null, .null] [] σ := by
  unfold fL_law_b608 at h
  refine go_aload_n hc dL_law_608 rfl rfl ?_
  obtain ⟨r1, σ2, hf3, h⟩ := obi_some h
  obtain ⟨hg4, h⟩ := ogd_some h
  refine go_callVi hc ho cmX9_liars mlL_67 dL_law_609 ok_0 (As := []) (rest := []) (rX9_liars (N := 1) hf3 (Nat.le_refl _)) rfl (Nat.le_trans (Nat.le_of_ble_eq_true rfl) hN) rfl (Nat.le_of_ble_eq_true rfl) (Or.inr (of_decide_eq_true hg4)) ?_
  refine go_aload_n hc dL_law_612 rfl rfl ?_
  obtain ⟨r5, σ6, hf7, h⟩ := obi_some h
  obtain ⟨hg8, h⟩ := ogd_some h
  refine go_callVi hc ho cmX10_liars mlL_70 dL_law_613 ok_81 (As := []) (rest := [.int r1]) (rX10_liars (N := 4) hf7 (Nat.le_refl _)) rfl (Nat.le_trans (Nat.le_of_ble_eq_true rfl) hN) rfl (Nat.le_of_ble_eq_true rfl) (Or.inr (of_decide_eq_true hg8)) ?_
  refine go_icmp_eq (tgt := 1876) hc dL_law_616 rfl (fun hh => ?_) (fun hh => ?_)
  · rw [if_pos hh] at h
    refine go_iinc hc (lv1 := [.ref 100, .ref 0, .ref 81, .ref 94, .int (l4 + 6), .null, .null]) dL_law_1876 rfl ci_6 hL (by decide) (fun _ _ e => by cases e; rfl) rfl ?_
    refine go_goto (tgt := 23) hc dL_law_1879 rfl ?_
    exact hrc23 (l4 + 6) _ h
  · rw [if_neg hh] at h
    refine go_iconst hc dL_law_619 ci_0 ?_
    exact (ol01 h).elim
def fL_law_b571 (xs : Nat → Int32) (L : Nat) (rc23 : Int32 → OM → Option (Int32 × OM)) (l4 : Int32) (σ : OM) : Option (Int32 × OM) :=
  ogd (oin (l4 + (1 : Int32)) L) (
  ogd (oin (l4 + (2 : Int32)) L) (
  obi (fX9_implies (xs (l4 + (1 : Int32)).toNatClampNeg) (xs (l4 + (2 : Int32)).toNatClampNeg) σ) (fun r3 σ4 =>
  ogd (decide (mR σ4 96 0 = mR σ 96 0)) (
  ogd (oin (l4 + (1 : Int32)) L) (
  ogd (oin (l4 + (2 : Int32)) L) (
  obi (fX10_implies (xs (l4 + (1 : Int32)).toNatClampNeg) (xs (l4 + (2 : Int32)).toNatClampNeg) σ4) (fun r9 σ10 =>
  ogd (decide (mR σ10 96 0 = mR σ4 96 0)) (
  if r3 = r9 then (
   rc23 (l4 + 6) σ10)
  else (some ((0 : Int32), σ10))))))))))
set_option maxRecDepth 100000 in
set_option maxHeartbeats 4000000 in
theorem rL_law_b571 {K : OK} (hc : kcc K = code) (ho : kow K = RL) (hL : knL K = 7) (hN : 1300 ≤ kN K) {xs : Nat → Int32} {L : Nat} (hX0 : oLx K L xs) (hlx : oLz K) {σ0 : OM} {rc23 : Int32 → OM → Option (Int32 × OM)} (hrc23 : ∀ (l4 : Int32) (σ : OM), rc23 l4 σ = some ((1 : Int32), σ0) → Go K 23 [.ref 100, .ref 0, .ref 81, .ref 94, .int l4, .null, .null] [] σ) {l4 : Int32} {σ : OM} (h : fL_law_b571 xs L rc23 l4 σ = some ((1 : Int32), σ0)) : Go K 571 [.ref 100, .ref 0, .ref 81, .ref 94, .int l4, .null, .null] [] σ := by
  unfold fL_law_b571 at h
  refine go_aload_n hc dL_law_571 rfl rfl ?_
  refine go_aload_n hc dL_law_572 rfl rfl ?_
  refine go_iload hc dL_law_573 rfl ?_
  refine go_iconst hc dL_law_575 ci_1 ?_
  refine go_iadd hc dL_law_576 ?_
  obtain ⟨hg1, h⟩ := ogd_some h
  refine go_scr hc hX0 hg1 dL_law_577 ?_
  refine go_aload_n hc dL_law_578 rfl rfl ?_
  refine go_iload hc dL_law_579 rfl ?_
  refine go_iconst hc dL_law_581 ci_2 ?_
  refine go_iadd hc dL_law_582 ?_
  obtain ⟨hg2, h⟩ := ogd_some h
  refine go_scr hc hX0 hg2 dL_law_583 ?_
  obtain ⟨r3, σ4, hf5, h⟩ := obi_some h
  obtain ⟨hg6, h⟩ := ogd_some h
  refine go_callVi hc ho cmX9_implies mlL_63 dL_law_584 ok_0 (As := [.int (xs (l4 + (1 : Int32)).toNatClampNeg), .int (xs (l4 + (2 : Int32)).toNatClampNeg)]) (rest := []) (rX9_implies (N := 1) hf5 (Nat.le_refl _)) rfl (Nat.le_trans (Nat.le_of_ble_eq_true rfl) hN) rfl (Nat.le_of_ble_eq_true rfl) (Or.inr (of_decide_eq_true hg6)) ?_
  refine go_aload_n hc dL_law_587 rfl rfl ?_
  refine go_aload_n hc dL_law_588 rfl rfl ?_
  refine go_iload hc dL_law_589 rfl ?_
  refine go_iconst hc dL_law_591 ci_1 ?_
  refine go_iadd hc dL_law_592 ?_
  obtain ⟨hg7, h⟩ := ogd_some h
  refine go_scr hc hX0 hg7 dL_law_593 ?_
  refine go_aload_n hc dL_law_594 rfl rfl ?_
  refine go_iload hc dL_law_595 rfl ?_
  refine go_iconst hc dL_law_597 ci_2 ?_
  refine go_iadd hc dL_law_598 ?_
  obtain ⟨hg8, h⟩ := ogd_some h
  refine go_scr hc hX0 hg8 dL_law_599 ?_
  obtain ⟨r9, σ10, hf11, h⟩ := obi_some h
  obtain ⟨hg12, h⟩ := ogd_some h
  refine go_callVi hc ho cmX10_implies mlL_66 dL_law_600 ok_81 (As := [.int (xs (l4 + (1 : Int32)).toNatClampNeg), .int (xs (l4 + (2 : Int32)).toNatClampNeg)]) (rest := [.int r3]) (rX10_implies (N := 2) hf11 (Nat.le_refl _)) rfl (Nat.le_trans (Nat.le_of_ble_eq_true rfl) hN) rfl (Nat.le_of_ble_eq_true rfl) (Or.inr (of_decide_eq_true hg12)) ?_
  refine go_icmp_eq (tgt := 1876) hc dL_law_603 rfl (fun hh => ?_) (fun hh => ?_)
  · rw [if_pos hh] at h
    refine go_iinc hc (lv1 := [.ref 100, .ref 0, .ref 81, .ref 94, .int (l4 + 6), .null, .null]) dL_law_1876 rfl ci_6 hL (by decide) (fun _ _ e => by cases e; rfl) rfl ?_
    refine go_goto (tgt := 23) hc dL_law_1879 rfl ?_
    exact hrc23 (l4 + 6) _ h
  · rw [if_neg hh] at h
    refine go_iconst hc dL_law_606 ci_0 ?_
    exact (ol01 h).elim
def fL_law_b546 (xs : Nat → Int32) (L : Nat) (rc23 : Int32 → OM → Option (Int32 × OM)) (l4 : Int32) (σ : OM) : Option (Int32 × OM) :=
  ogd (oin (l4 + (1 : Int32)) L) (
  obi (fX9_alike (xs (l4 + (1 : Int32)).toNatClampNeg) σ) (fun r2 σ3 =>
  ogd (decide (mR σ3 96 0 = mR σ 96 0)) (
  ogd (oin (l4 + (1 : Int32)) L) (
  obi (fX10_alike (xs (l4 + (1 : Int32)).toNatClampNeg) σ3) (fun r7 σ8 =>
  ogd (decide (mR σ8 96 0 = mR σ3 96 0)) (
  if r2 = r7 then (
   rc23 (l4 + 6) σ8)
  else (some ((0 : Int32), σ8))))))))
set_option maxRecDepth 100000 in
set_option maxHeartbeats 4000000 in
theorem rL_law_b546 {K : OK} (hc : kcc K = code) (ho : kow K = RL) (hL : knL K = 7) (hN : 1300 ≤ kN K) {xs : Nat → Int32} {L : Nat} (hX0 : oLx K L xs) (hlx : oLz K) {σ0 : OM} {rc23 : Int32 → OM → Option (Int32 × OM)} (hrc23 : ∀ (l4 : Int32) (σ : OM), rc23 l4 σ = some ((1 : Int32), σ0) → Go K 23 [.ref 100, .ref 0, .ref 81, .ref 94, .int l4, .null, .null] [] σ) {l4 : Int32} {σ : OM} (h : fL_law_b546 xs L rc23 l4 σ = some ((1 : Int32), σ0)) : Go K 546 [.ref 100, .ref 0, .ref 81, .ref 94, .int l4, .null, .null] [] σ := by
  unfold fL_law_b546 at h
  refine go_aload_n hc dL_law_546 rfl rfl ?_
  refine go_aload_n hc dL_law_547 rfl rfl ?_
  refine go_iload hc dL_law_548 rfl ?_
  refine go_iconst hc dL_law_550 ci_1 ?_
  refine go_iadd hc dL_law_551 ?_
  obtain ⟨hg1, h⟩ := ogd_some h
  refine go_scr hc hX0 hg1 dL_law_552 ?_
  obtain ⟨r2, σ3, hf4, h⟩ := obi_some h
  obtain ⟨hg5, h⟩ := ogd_some h
  refine go_callVi hc ho cmX9_alike mlL_59 dL_law_553 ok_0 (As := [.int (xs (l4 + (1 : Int32)).toNatClampNeg)]) (rest := []) (rX9_alike (N := 1) hf4 (Nat.le_refl _)) rfl (Nat.le_trans (Nat.le_of_ble_eq_true rfl) hN) rfl (Nat.le_of_ble_eq_true rfl) (Or.inr (of_decide_eq_true hg5)) ?_
  refine go_aload_n hc dL_law_556 rfl rfl ?_
  refine go_aload_n hc dL_law_557 rfl rfl ?_
  refine go_iload hc dL_law_558 rfl ?_
  refine go_iconst hc dL_law_560 ci_1 ?_
  refine go_iadd hc dL_law_561 ?_
  obtain ⟨hg6, h⟩ := ogd_some h
  refine go_scr hc hX0 hg6 dL_law_562 ?_
  obtain ⟨r7, σ8, hf9, h⟩ := obi_some h
  obtain ⟨hg10, h⟩ := ogd_some h
  refine go_callVi hc ho cmX10_alike mlL_62 dL_law_563 ok_81 (As := [.int (xs (l4 + (1 : Int32)).toNatClampNeg)]) (rest := [.int r2]) (rX10_alike (N := 2) hf9 (Nat.le_refl _)) rfl (Nat.le_trans (Nat.le_of_ble_eq_true rfl) hN) rfl (Nat.le_of_ble_eq_true rfl) (Or.inr (of_decide_eq_true hg10)) ?_
  refine go_icmp_eq (tgt := 1876) hc dL_law_566 rfl (fun hh => ?_) (fun hh => ?_)
  · rw [if_pos hh] at h
    refine go_iinc hc (lv1 := [.ref 100, .ref 0, .ref 81, .ref 94, .int (l4 + 6), .null, .null]) dL_law_1876 rfl ci_6 hL (by decide) (fun _ _ e => by cases e; rfl) rfl ?_
    refine go_goto (tgt := 23) hc dL_law_1879 rfl ?_
    exact hrc23 (l4 + 6) _ h
  · rw [if_neg hh] at h
    refine go_iconst hc dL_law_569 ci_0 ?_
    exact (ol01 h).elim
def fL_law_b492 (xs : Nat → Int32) (L : Nat) (rc23 : Int32 → OM → Option (Int32 × OM)) (l4 : Int32) (σ : OM) : Option (Int32 × OM) :=
  ogd (oin (l4 + (1 : Int32)) L) (
  ogd (oin (l4 + (2 : Int32)) L) (
  if (xs (l4 + (2 : Int32)).toNatClampNeg) = 0 then (
   obi (fX9_chance (xs (l4 + (1 : Int32)).toNatClampNeg) (0 : Int32) σ) (fun r3 σ4 =>
   ogd (decide (mR σ4 96 0 = mR σ 96 0)) (
   ogd (oin (l4 + (1 : Int32)) L) (
   ogd (oin (l4 + (2 : Int32)) L) (
   if (xs (l4 + (2 : Int32)).toNatClampNeg) = 0 then (
    obi (fX10_chance (xs (l4 + (1 : Int32)).toNatClampNeg) (0 : Int32) σ4) (fun r9 σ10 =>
    ogd (decide (mR σ10 96 0 = mR σ4 96 0)) (
    if (lg_cmp r3 r9) = 0 then (
     rc23 (l4 + 6) σ10)
    else (some ((0 : Int32), σ10)))))
   else (obi (fX10_chance (xs (l4 + (1 : Int32)).toNatClampNeg) (1 : Int32) σ4) (fun r13 σ14 =>
   ogd (decide (mR σ14 96 0 = mR σ4 96 0)) (
   if (lg_cmp r3 r13) = 0 then (
    rc23 (l4 + 6) σ14)
   else (some ((0 : Int32), σ14))))))))))
  else (obi (fX9_chance (xs (l4 + (1 : Int32)).toNatClampNeg) (1 : Int32) σ) (fun r17 σ18 =>
  ogd (decide (mR σ18 96 0 = mR σ 96 0)) (
  ogd (oin (l4 + (1 : Int32)) L) (
  ogd (oin (l4 + (2 : Int32)) L) (
  if (xs (l4 + (2 : Int32)).toNatClampNeg) = 0 then (
   obi (fX10_chance (xs (l4 + (1 : Int32)).toNatClampNeg) (0 : Int32) σ18) (fun r23 σ24 =>
   ogd (decide (mR σ24 96 0 = mR σ18 96 0)) (
   if (lg_cmp r17 r23) = 0 then (
    rc23 (l4 + 6) σ24)
   else (some ((0 : Int32), σ24)))))
  else (obi (fX10_chance (xs (l4 + (1 : Int32)).toNatClampNeg) (1 : Int32) σ18) (fun r27 σ28 =>
  ogd (decide (mR σ28 96 0 = mR σ18 96 0)) (
  if (lg_cmp r17 r27) = 0 then (
   rc23 (l4 + 6) σ28)
  else (some ((0 : Int32), σ28))))))))))))
set_option maxRecDepth 100000 in
set_option maxHeartbeats 4000000 in
theorem rL_law_b492 {K : OK} (hc : kcc K = code) (ho : kow K = RL) (hL : knL K = 7) (hN : 1300 ≤ kN K) {xs : Nat → Int32} {L : Nat} (hX0 : oLx K L xs) (hlx : oLz K) {σ0 : OM} {rc23 : Int32 → OM → Option (Int32 × OM)} (hrc23 : ∀ (l4 : Int32) (σ : OM), rc23 l4 σ = some ((1 : Int32), σ0) → Go K 23 [.ref 100, .ref 0, .ref 81, .ref 94, .int l4, .null, .null] [] σ) {l4 : Int32} {σ : OM} (h : fL_law_b492 xs L rc23 l4 σ = some ((1 : Int32), σ0)) : Go K 492 [.ref 100, .ref 0, .ref 81, .ref 94, .int l4, .null, .null] [] σ := by
  unfold fL_law_b492 at h
  refine go_aload_n hc dL_law_492 rfl rfl ?_
  refine go_aload_n hc dL_law_493 rfl rfl ?_
  refine go_iload hc dL_law_494 rfl ?_
  refine go_iconst hc dL_law_496 ci_1 ?_
  refine go_iadd hc dL_law_497 ?_
  obtain ⟨hg1, h⟩ := ogd_some h
  refine go_scr hc hX0 hg1 dL_law_498 ?_
  refine go_aload_n hc dL_law_499 rfl rfl ?_
  refine go_iload hc dL_law_500 rfl ?_
  refine go_iconst hc dL_law_502 ci_2 ?_
  refine go_iadd hc dL_law_503 ?_
  obtain ⟨hg2, h⟩ := ogd_some h
  refine go_scr hc hX0 hg2 dL_law_504 ?_
  refine go_if_eq (tgt := 512) hc dL_law_505 rfl (fun hh => ?_) (fun hh => ?_)
  · rw [if_pos hh] at h
    refine go_iconst hc dL_law_512 ci_0 ?_
    obtain ⟨r3, σ4, hf5, h⟩ := obi_some h
    obtain ⟨hg6, h⟩ := ogd_some h
    refine go_callVl hc ho cmX9_chance mlL_54 dL_law_513 ok_0 (As := [.int (xs (l4 + (1 : Int32)).toNatClampNeg), .int (0 : Int32)]) (rest := []) (rX9_chance (N := 3) hf5 (Nat.le_refl _)) rfl (Nat.le_trans (Nat.le_of_ble_eq_true rfl) hN) rfl (Nat.le_of_ble_eq_true rfl) (Or.inr (of_decide_eq_true hg6)) ?_
    refine go_aload_n hc dL_law_516 rfl rfl ?_
    refine go_aload_n hc dL_law_517 rfl rfl ?_
    refine go_iload hc dL_law_518 rfl ?_
    refine go_iconst hc dL_law_520 ci_1 ?_
    refine go_iadd hc dL_law_521 ?_
    obtain ⟨hg7, h⟩ := ogd_some h
    refine go_scr hc hX0 hg7 dL_law_522 ?_
    refine go_aload_n hc dL_law_523 rfl rfl ?_
    refine go_iload hc dL_law_524 rfl ?_
    refine go_iconst hc dL_law_526 ci_2 ?_
    refine go_iadd hc dL_law_527 ?_
    obtain ⟨hg8, h⟩ := ogd_some h
    refine go_scr hc hX0 hg8 dL_law_528 ?_
    refine go_if_eq (tgt := 536) hc dL_law_529 rfl (fun hh => ?_) (fun hh => ?_)
    · rw [if_pos hh] at h
      refine go_iconst hc dL_law_536 ci_0 ?_
      obtain ⟨r9, σ10, hf11, h⟩ := obi_some h
      obtain ⟨hg12, h⟩ := ogd_some h
      refine go_callVl hc ho cmX10_chance mlL_58 dL_law_537 ok_81 (As := [.int (xs (l4 + (1 : Int32)).toNatClampNeg), .int (0 : Int32)]) (rest := [.long r3]) (rX10_chance (N := 3) hf11 (Nat.le_refl _)) rfl (Nat.le_trans (Nat.le_of_ble_eq_true rfl) hN) rfl (Nat.le_of_ble_eq_true rfl) (Or.inr (of_decide_eq_true hg12)) ?_
      refine go_lcmp hc dL_law_540 ?_
      refine go_if_eq (tgt := 1876) hc dL_law_541 rfl (fun hh => ?_) (fun hh => ?_)
      · rw [if_pos hh] at h
        refine go_iinc hc (lv1 := [.ref 100, .ref 0, .ref 81, .ref 94, .int (l4 + 6), .null, .null]) dL_law_1876 rfl ci_6 hL (by decide) (fun _ _ e => by cases e; rfl) rfl ?_
        refine go_goto (tgt := 23) hc dL_law_1879 rfl ?_
        exact hrc23 (l4 + 6) _ h
      · rw [if_neg hh] at h
        refine go_iconst hc dL_law_544 ci_0 ?_
        exact (ol01 h).elim
    · rw [if_neg hh] at h
      refine go_iconst hc dL_law_532 ci_1 ?_
      refine go_goto (tgt := 537) hc dL_law_533 rfl ?_
      obtain ⟨r13, σ14, hf15, h⟩ := obi_some h
      obtain ⟨hg16, h⟩ := ogd_some h
      refine go_callVl hc ho cmX10_chance mlL_58 dL_law_537 ok_81 (As := [.int (xs (l4 + (1 : Int32)).toNatClampNeg), .int (1 : Int32)]) (rest := [.long r3]) (rX10_chance (N := 3) hf15 (Nat.le_refl _)) rfl (Nat.le_trans (Nat.le_of_ble_eq_true rfl) hN) rfl (Nat.le_of_ble_eq_true rfl) (Or.inr (of_decide_eq_true hg16)) ?_
      refine go_lcmp hc dL_law_540 ?_
      refine go_if_eq (tgt := 1876) hc dL_law_541 rfl (fun hh => ?_) (fun hh => ?_)
      · rw [if_pos hh] at h
        refine go_iinc hc (lv1 := [.ref 100, .ref 0, .ref 81, .ref 94, .int (l4 + 6), .null, .null]) dL_law_1876 rfl ci_6 hL (by decide) (fun _ _ e => by cases e; rfl) rfl ?_
        refine go_goto (tgt := 23) hc dL_law_1879 rfl ?_
        exact hrc23 (l4 + 6) _ h
      · rw [if_neg hh] at h
        refine go_iconst hc dL_law_544 ci_0 ?_
        exact (ol01 h).elim
  · rw [if_neg hh] at h
    refine go_iconst hc dL_law_508 ci_1 ?_
    refine go_goto (tgt := 513) hc dL_law_509 rfl ?_
    obtain ⟨r17, σ18, hf19, h⟩ := obi_some h
    obtain ⟨hg20, h⟩ := ogd_some h
    refine go_callVl hc ho cmX9_chance mlL_54 dL_law_513 ok_0 (As := [.int (xs (l4 + (1 : Int32)).toNatClampNeg), .int (1 : Int32)]) (rest := []) (rX9_chance (N := 3) hf19 (Nat.le_refl _)) rfl (Nat.le_trans (Nat.le_of_ble_eq_true rfl) hN) rfl (Nat.le_of_ble_eq_true rfl) (Or.inr (of_decide_eq_true hg20)) ?_
    refine go_aload_n hc dL_law_516 rfl rfl ?_
    refine go_aload_n hc dL_law_517 rfl rfl ?_
    refine go_iload hc dL_law_518 rfl ?_
    refine go_iconst hc dL_law_520 ci_1 ?_
    refine go_iadd hc dL_law_521 ?_
    obtain ⟨hg21, h⟩ := ogd_some h
    refine go_scr hc hX0 hg21 dL_law_522 ?_
    refine go_aload_n hc dL_law_523 rfl rfl ?_
    refine go_iload hc dL_law_524 rfl ?_
    refine go_iconst hc dL_law_526 ci_2 ?_
    refine go_iadd hc dL_law_527 ?_
    obtain ⟨hg22, h⟩ := ogd_some h
    refine go_scr hc hX0 hg22 dL_law_528 ?_
    refine go_if_eq (tgt := 536) hc dL_law_529 rfl (fun hh => ?_) (fun hh => ?_)
    · rw [if_pos hh] at h
      refine go_iconst hc dL_law_536 ci_0 ?_
      obtain ⟨r23, σ24, hf25, h⟩ := obi_some h
      obtain ⟨hg26, h⟩ := ogd_some h
      refine go_callVl hc ho cmX10_chance mlL_58 dL_law_537 ok_81 (As := [.int (xs (l4 + (1 : Int32)).toNatClampNeg), .int (0 : Int32)]) (rest := [.long r17]) (rX10_chance (N := 3) hf25 (Nat.le_refl _)) rfl (Nat.le_trans (Nat.le_of_ble_eq_true rfl) hN) rfl (Nat.le_of_ble_eq_true rfl) (Or.inr (of_decide_eq_true hg26)) ?_
      refine go_lcmp hc dL_law_540 ?_
      refine go_if_eq (tgt := 1876) hc dL_law_541 rfl (fun hh => ?_) (fun hh => ?_)
      · rw [if_pos hh] at h
        refine go_iinc hc (lv1 := [.ref 100, .ref 0, .ref 81, .ref 94, .int (l4 + 6), .null, .null]) dL_law_1876 rfl ci_6 hL (by decide) (fun _ _ e => by cases e; rfl) rfl ?_
        refine go_goto (tgt := 23) hc dL_law_1879 rfl ?_
        exact hrc23 (l4 + 6) _ h
      · rw [if_neg hh] at h
        refine go_iconst hc dL_law_544 ci_0 ?_
        exact (ol01 h).elim
    · rw [if_neg hh] at h
      refine go_iconst hc dL_law_532 ci_1 ?_
      refine go_goto (tgt := 537) hc dL_law_533 rfl ?_
      obtain ⟨r27, σ28, hf29, h⟩ := obi_some h
      obtain ⟨hg30, h⟩ := ogd_some h
      refine go_callVl hc ho cmX10_chance mlL_58 dL_law_537 ok_81 (As := [.int (xs (l4 + (1 : Int32)).toNatClampNeg), .int (1 : Int32)]) (rest := [.long r17]) (rX10_chance (N := 3) hf29 (Nat.le_refl _)) rfl (Nat.le_trans (Nat.le_of_ble_eq_true rfl) hN) rfl (Nat.le_of_ble_eq_true rfl) (Or.inr (of_decide_eq_true hg30)) ?_
      refine go_lcmp hc dL_law_540 ?_
      refine go_if_eq (tgt := 1876) hc dL_law_541 rfl (fun hh => ?_) (fun hh => ?_)
      · rw [if_pos hh] at h
        refine go_iinc hc (lv1 := [.ref 100, .ref 0, .ref 81, .ref 94, .int (l4 + 6), .null, .null]) dL_law_1876 rfl ci_6 hL (by decide) (fun _ _ e => by cases e; rfl) rfl ?_
        refine go_goto (tgt := 23) hc dL_law_1879 rfl ?_
        exact hrc23 (l4 + 6) _ h
      · rw [if_neg hh] at h
        refine go_iconst hc dL_law_544 ci_0 ?_
        exact (ol01 h).elim
def fL_law_b455 (xs : Nat → Int32) (L : Nat) (rc23 : Int32 → OM → Option (Int32 × OM)) (l4 : Int32) (σ : OM) : Option (Int32 × OM) :=
  ogd (oin (l4 + (1 : Int32)) L) (
  ogd (oin (l4 + (2 : Int32)) L) (
  obi (fX9_isSo (xs (l4 + (1 : Int32)).toNatClampNeg) (xs (l4 + (2 : Int32)).toNatClampNeg) σ) (fun r3 σ4 =>
  ogd (decide (mR σ4 96 0 = mR σ 96 0)) (
  ogd (oin (l4 + (1 : Int32)) L) (
  ogd (oin (l4 + (2 : Int32)) L) (
  obi (fX10_isSo (xs (l4 + (1 : Int32)).toNatClampNeg) (xs (l4 + (2 : Int32)).toNatClampNeg) σ4) (fun r9 σ10 =>
  ogd (decide (mR σ10 96 0 = mR σ4 96 0)) (
  if r3 = r9 then (
   rc23 (l4 + 6) σ10)
  else (some ((0 : Int32), σ10))))))))))
set_option maxRecDepth 100000 in
set_option maxHeartbeats 4000000 in
theorem rL_law_b455 {K : OK} (hc : kcc K = code) (ho : kow K = RL) (hL : knL K = 7) (hN : 1300 ≤ kN K) {xs : Nat → Int32} {L : Nat} (hX0 : oLx K L xs) (hlx : oLz K) {σ0 : OM} {rc23 : Int32 → OM → Option (Int32 × OM)} (hrc23 : ∀ (l4 : Int32) (σ : OM), rc23 l4 σ = some ((1 : Int32), σ0) → Go K 23 [.ref 100, .ref 0, .ref 81, .ref 94, .int l4, .null, .null] [] σ) {l4 : Int32} {σ : OM} (h : fL_law_b455 xs L rc23 l4 σ = some ((1 : Int32), σ0)) : Go K 455 [.ref 100, .ref 0, .ref 81, .ref 94, .int l4, .null, .null] [] σ := by
  unfold fL_law_b455 at h
  refine go_aload_n hc dL_law_455 rfl rfl ?_
  refine go_aload_n hc dL_law_456 rfl rfl ?_
  refine go_iload hc dL_law_457 rfl ?_
  refine go_iconst hc dL_law_459 ci_1 ?_
  refine go_iadd hc dL_law_460 ?_
  obtain ⟨hg1, h⟩ := ogd_some h
  refine go_scr hc hX0 hg1 dL_law_461 ?_
  refine go_aload_n hc dL_law_462 rfl rfl ?_
  refine go_iload hc dL_law_463 rfl ?_
  refine go_iconst hc dL_law_465 ci_2 ?_
  refine go_iadd hc dL_law_466 ?_
  obtain ⟨hg2, h⟩ := ogd_some h
  refine go_scr hc hX0 hg2 dL_law_467 ?_
  obtain ⟨r3, σ4, hf5, h⟩ := obi_some h
  obtain ⟨hg6, h⟩ := ogd_some h
  refine go_callVi hc ho cmX9_isSo mlL_49 dL_law_468 ok_0 (As := [.int (xs (l4 + (1 : Int32)).toNatClampNeg), .int (xs (l4 + (2 : Int32)).toNatClampNeg)]) (rest := []) (rX9_isSo (N := 1) hf5 (Nat.le_refl _)) rfl (Nat.le_trans (Nat.le_of_ble_eq_true rfl) hN) rfl (Nat.le_of_ble_eq_true rfl) (Or.inr (of_decide_eq_true hg6)) ?_
  refine go_aload_n hc dL_law_471 rfl rfl ?_
  refine go_aload_n hc dL_law_472 rfl rfl ?_
  refine go_iload hc dL_law_473 rfl ?_
  refine go_iconst hc dL_law_475 ci_1 ?_
  refine go_iadd hc dL_law_476 ?_
  obtain ⟨hg7, h⟩ := ogd_some h
  refine go_scr hc hX0 hg7 dL_law_477 ?_
  refine go_aload_n hc dL_law_478 rfl rfl ?_
  refine go_iload hc dL_law_479 rfl ?_
  refine go_iconst hc dL_law_481 ci_2 ?_
  refine go_iadd hc dL_law_482 ?_
  obtain ⟨hg8, h⟩ := ogd_some h
  refine go_scr hc hX0 hg8 dL_law_483 ?_
  obtain ⟨r9, σ10, hf11, h⟩ := obi_some h
  obtain ⟨hg12, h⟩ := ogd_some h
  refine go_callVi hc ho cmX10_isSo mlL_53 dL_law_484 ok_81 (As := [.int (xs (l4 + (1 : Int32)).toNatClampNeg), .int (xs (l4 + (2 : Int32)).toNatClampNeg)]) (rest := [.int r3]) (rX10_isSo (N := 2) hf11 (Nat.le_refl _)) rfl (Nat.le_trans (Nat.le_of_ble_eq_true rfl) hN) rfl (Nat.le_of_ble_eq_true rfl) (Or.inr (of_decide_eq_true hg12)) ?_
  refine go_icmp_eq (tgt := 1876) hc dL_law_487 rfl (fun hh => ?_) (fun hh => ?_)
  · rw [if_pos hh] at h
    refine go_iinc hc (lv1 := [.ref 100, .ref 0, .ref 81, .ref 94, .int (l4 + 6), .null, .null]) dL_law_1876 rfl ci_6 hL (by decide) (fun _ _ e => by cases e; rfl) rfl ?_
    refine go_goto (tgt := 23) hc dL_law_1879 rfl ?_
    exact hrc23 (l4 + 6) _ h
  · rw [if_neg hh] at h
    refine go_iconst hc dL_law_490 ci_0 ?_
    exact (ol01 h).elim
def fL_law_b430 (xs : Nat → Int32) (L : Nat) (rc23 : Int32 → OM → Option (Int32 × OM)) (l4 : Int32) (σ : OM) : Option (Int32 × OM) :=
  ogd (oin (l4 + (1 : Int32)) L) (
  obi (fX9_odds (xs (l4 + (1 : Int32)).toNatClampNeg) σ) (fun r2 σ3 =>
  ogd (decide (mR σ3 96 0 = mR σ 96 0)) (
  ogd (oin (l4 + (1 : Int32)) L) (
  obi (fX10_odds (xs (l4 + (1 : Int32)).toNatClampNeg) σ3) (fun r7 σ8 =>
  ogd (decide (mR σ8 96 0 = mR σ3 96 0)) (
  if r2 = r7 then (
   rc23 (l4 + 6) σ8)
  else (some ((0 : Int32), σ8))))))))
set_option maxRecDepth 100000 in
set_option maxHeartbeats 4000000 in
theorem rL_law_b430 {K : OK} (hc : kcc K = code) (ho : kow K = RL) (hL : knL K = 7) (hN : 1300 ≤ kN K) {xs : Nat → Int32} {L : Nat} (hX0 : oLx K L xs) (hlx : oLz K) {σ0 : OM} {rc23 : Int32 → OM → Option (Int32 × OM)} (hrc23 : ∀ (l4 : Int32) (σ : OM), rc23 l4 σ = some ((1 : Int32), σ0) → Go K 23 [.ref 100, .ref 0, .ref 81, .ref 94, .int l4, .null, .null] [] σ) {l4 : Int32} {σ : OM} (h : fL_law_b430 xs L rc23 l4 σ = some ((1 : Int32), σ0)) : Go K 430 [.ref 100, .ref 0, .ref 81, .ref 94, .int l4, .null, .null] [] σ := by
  unfold fL_law_b430 at h
  refine go_aload_n hc dL_law_430 rfl rfl ?_
  refine go_aload_n hc dL_law_431 rfl rfl ?_
  refine go_iload hc dL_law_432 rfl ?_
  refine go_iconst hc dL_law_434 ci_1 ?_
  refine go_iadd hc dL_law_435 ?_
  obtain ⟨hg1, h⟩ := ogd_some h
  refine go_scr hc hX0 hg1 dL_law_436 ?_
  obtain ⟨r2, σ3, hf4, h⟩ := obi_some h
  obtain ⟨hg5, h⟩ := ogd_some h
  refine go_callVi hc ho cmX9_odds mlL_45 dL_law_437 ok_0 (As := [.int (xs (l4 + (1 : Int32)).toNatClampNeg)]) (rest := []) (rX9_odds (N := 1) hf4 (Nat.le_refl _)) rfl (Nat.le_trans (Nat.le_of_ble_eq_true rfl) hN) rfl (Nat.le_of_ble_eq_true rfl) (Or.inr (of_decide_eq_true hg5)) ?_
  refine go_aload_n hc dL_law_440 rfl rfl ?_
  refine go_aload_n hc dL_law_441 rfl rfl ?_
  refine go_iload hc dL_law_442 rfl ?_
  refine go_iconst hc dL_law_444 ci_1 ?_
  refine go_iadd hc dL_law_445 ?_
  obtain ⟨hg6, h⟩ := ogd_some h
  refine go_scr hc hX0 hg6 dL_law_446 ?_
  obtain ⟨r7, σ8, hf9, h⟩ := obi_some h
  obtain ⟨hg10, h⟩ := ogd_some h
  refine go_callVi hc ho cmX10_odds mlL_48 dL_law_447 ok_81 (As := [.int (xs (l4 + (1 : Int32)).toNatClampNeg)]) (rest := [.int r2]) (rX10_odds (N := 2) hf9 (Nat.le_refl _)) rfl (Nat.le_trans (Nat.le_of_ble_eq_true rfl) hN) rfl (Nat.le_of_ble_eq_true rfl) (Or.inr (of_decide_eq_true hg10)) ?_
  refine go_icmp_eq (tgt := 1876) hc dL_law_450 rfl (fun hh => ?_) (fun hh => ?_)
  · rw [if_pos hh] at h
    refine go_iinc hc (lv1 := [.ref 100, .ref 0, .ref 81, .ref 94, .int (l4 + 6), .null, .null]) dL_law_1876 rfl ci_6 hL (by decide) (fun _ _ e => by cases e; rfl) rfl ?_
    refine go_goto (tgt := 23) hc dL_law_1879 rfl ?_
    exact hrc23 (l4 + 6) _ h
  · rw [if_neg hh] at h
    refine go_iconst hc dL_law_453 ci_0 ?_
    exact (ol01 h).elim
def fL_law_b417 (xs : Nat → Int32) (L : Nat) (rc23 : Int32 → OM → Option (Int32 × OM)) (l4 : Int32) (σ : OM) : Option (Int32 × OM) :=
  obi (fX9_worlds σ) (fun r1 σ2 =>
  ogd (decide (mR σ2 96 0 = mR σ 96 0)) (
  obi (fX10_worlds σ2) (fun r5 σ6 =>
  ogd (decide (mR σ6 96 0 = mR σ2 96 0)) (
  if r1 = r5 then (
   rc23 (l4 + 6) σ6)
  else (some ((0 : Int32), σ6))))))
set_option maxRecDepth 100000 in
set_option maxHeartbeats 4000000 in
theorem rL_law_b417 {K : OK} (hc : kcc K = code) (ho : kow K = RL) (hL : knL K = 7) (hN : 1300 ≤ kN K) {xs : Nat → Int32} {L : Nat} (hX0 : oLx K L xs) (hlx : oLz K) {σ0 : OM} {rc23 : Int32 → OM → Option (Int32 × OM)} (hrc23 : ∀ (l4 : Int32) (σ : OM), rc23 l4 σ = some ((1 : Int32), σ0) → Go K 23 [.ref 100, .ref 0, .ref 81, .ref 94, .int l4, .null, .null] [] σ) {l4 : Int32} {σ : OM} (h : fL_law_b417 xs L rc23 l4 σ = some ((1 : Int32), σ0)) : Go K 417 [.ref 100, .ref 0, .ref 81, .ref 94, .int l4, .null, .null] [] σ := by
  unfold fL_law_b417 at h
  refine go_aload_n hc dL_law_417 rfl rfl ?_
  obtain ⟨r1, σ2, hf3, h⟩ := obi_some h
  obtain ⟨hg4, h⟩ := ogd_some h
  refine go_callVi hc ho cmX9_worlds mlL_41 dL_law_418 ok_0 (As := []) (rest := []) (rX9_worlds (N := 1) hf3 (Nat.le_refl _)) rfl (Nat.le_trans (Nat.le_of_ble_eq_true rfl) hN) rfl (Nat.le_of_ble_eq_true rfl) (Or.inr (of_decide_eq_true hg4)) ?_
  refine go_aload_n hc dL_law_421 rfl rfl ?_
  obtain ⟨r5, σ6, hf7, h⟩ := obi_some h
  obtain ⟨hg8, h⟩ := ogd_some h
  refine go_callVi hc ho cmX10_worlds mlL_44 dL_law_422 ok_81 (As := []) (rest := [.int r1]) (rX10_worlds (N := 1) hf7 (Nat.le_refl _)) rfl (Nat.le_trans (Nat.le_of_ble_eq_true rfl) hN) rfl (Nat.le_of_ble_eq_true rfl) (Or.inr (of_decide_eq_true hg8)) ?_
  refine go_icmp_eq (tgt := 1876) hc dL_law_425 rfl (fun hh => ?_) (fun hh => ?_)
  · rw [if_pos hh] at h
    refine go_iinc hc (lv1 := [.ref 100, .ref 0, .ref 81, .ref 94, .int (l4 + 6), .null, .null]) dL_law_1876 rfl ci_6 hL (by decide) (fun _ _ e => by cases e; rfl) rfl ?_
    refine go_goto (tgt := 23) hc dL_law_1879 rfl ?_
    exact hrc23 (l4 + 6) _ h
  · rw [if_neg hh] at h
    refine go_iconst hc dL_law_428 ci_0 ?_
    exact (ol01 h).elim
def fL_law_b392 (xs : Nat → Int32) (L : Nat) (rc23 : Int32 → OM → Option (Int32 × OM)) (l4 : Int32) (σ : OM) : Option (Int32 × OM) :=
  ogd (oin (l4 + (1 : Int32)) L) (
  obi (fX9_canBe (xs (l4 + (1 : Int32)).toNatClampNeg) σ) (fun r2 σ3 =>
  ogd (decide (mR σ3 96 0 = mR σ 96 0)) (
  ogd (oin (l4 + (1 : Int32)) L) (
  obi (fX10_canBe (xs (l4 + (1 : Int32)).toNatClampNeg) σ3) (fun r7 σ8 =>
  ogd (decide (mR σ8 96 0 = mR σ3 96 0)) (
  if r2 = r7 then (
   rc23 (l4 + 6) σ8)
  else (some ((0 : Int32), σ8))))))))
set_option maxRecDepth 100000 in
set_option maxHeartbeats 4000000 in
theorem rL_law_b392 {K : OK} (hc : kcc K = code) (ho : kow K = RL) (hL : knL K = 7) (hN : 1300 ≤ kN K) {xs : Nat → Int32} {L : Nat} (hX0 : oLx K L xs) (hlx : oLz K) {σ0 : OM} {rc23 : Int32 → OM → Option (Int32 × OM)} (hrc23 : ∀ (l4 : Int32) (σ : OM), rc23 l4 σ = some ((1 : Int32), σ0) → Go K 23 [.ref 100, .ref 0, .ref 81, .ref 94, .int l4, .null, .null] [] σ) {l4 : Int32} {σ : OM} (h : fL_law_b392 xs L rc23 l4 σ = some ((1 : Int32), σ0)) : Go K 392 [.ref 100, .ref 0, .ref 81, .ref 94, .int l4, .null, .null] [] σ := by
  unfold fL_law_b392 at h
  refine go_aload_n hc dL_law_392 rfl rfl ?_
  refine go_aload_n hc dL_law_393 rfl rfl ?_
  refine go_iload hc dL_law_394 rfl ?_
  refine go_iconst hc dL_law_396 ci_1 ?_
  refine go_iadd hc dL_law_397 ?_
  obtain ⟨hg1, h⟩ := ogd_some h
  refine go_scr hc hX0 hg1 dL_law_398 ?_
  obtain ⟨r2, σ3, hf4, h⟩ := obi_some h
  obtain ⟨hg5, h⟩ := ogd_some h
  refine go_callVi hc ho cmX9_canBe mlL_37 dL_law_399 ok_0 (As := [.int (xs (l4 + (1 : Int32)).toNatClampNeg)]) (rest := []) (rX9_canBe (N := 1) hf4 (Nat.le_refl _)) rfl (Nat.le_trans (Nat.le_of_ble_eq_true rfl) hN) rfl (Nat.le_of_ble_eq_true rfl) (Or.inr (of_decide_eq_true hg5)) ?_
  refine go_aload_n hc dL_law_402 rfl rfl ?_
  refine go_aload_n hc dL_law_403 rfl rfl ?_
  refine go_iload hc dL_law_404 rfl ?_
  refine go_iconst hc dL_law_406 ci_1 ?_
  refine go_iadd hc dL_law_407 ?_
  obtain ⟨hg6, h⟩ := ogd_some h
  refine go_scr hc hX0 hg6 dL_law_408 ?_
  obtain ⟨r7, σ8, hf9, h⟩ := obi_some h
  obtain ⟨hg10, h⟩ := ogd_some h
  refine go_callVi hc ho cmX10_canBe mlL_40 dL_law_409 ok_81 (As := [.int (xs (l4 + (1 : Int32)).toNatClampNeg)]) (rest := [.int r2]) (rX10_canBe (N := 2) hf9 (Nat.le_refl _)) rfl (Nat.le_trans (Nat.le_of_ble_eq_true rfl) hN) rfl (Nat.le_of_ble_eq_true rfl) (Or.inr (of_decide_eq_true hg10)) ?_
  refine go_icmp_eq (tgt := 1876) hc dL_law_412 rfl (fun hh => ?_) (fun hh => ?_)
  · rw [if_pos hh] at h
    refine go_iinc hc (lv1 := [.ref 100, .ref 0, .ref 81, .ref 94, .int (l4 + 6), .null, .null]) dL_law_1876 rfl ci_6 hL (by decide) (fun _ _ e => by cases e; rfl) rfl ?_
    refine go_goto (tgt := 23) hc dL_law_1879 rfl ?_
    exact hrc23 (l4 + 6) _ h
  · rw [if_neg hh] at h
    refine go_iconst hc dL_law_415 ci_0 ?_
    exact (ol01 h).elim
def fL_law_b379 (xs : Nat → Int32) (L : Nat) (rc23 : Int32 → OM → Option (Int32 × OM)) (l4 : Int32) (σ : OM) : Option (Int32 × OM) :=
  obi (fX9_where σ) (fun r1 σ2 =>
  ogd (decide (mR σ2 96 0 = mR σ 96 0)) (
  obi (fX10_where σ2) (fun r5 σ6 =>
  ogd (decide (mR σ6 96 0 = mR σ2 96 0)) (
  if r1 = r5 then (
   rc23 (l4 + 6) σ6)
  else (some ((0 : Int32), σ6))))))
set_option maxRecDepth 100000 in
set_option maxHeartbeats 4000000 in
theorem rL_law_b379 {K : OK} (hc : kcc K = code) (ho : kow K = RL) (hL : knL K = 7) (hN : 1300 ≤ kN K) {xs : Nat → Int32} {L : Nat} (hX0 : oLx K L xs) (hlx : oLz K) {σ0 : OM} {rc23 : Int32 → OM → Option (Int32 × OM)} (hrc23 : ∀ (l4 : Int32) (σ : OM), rc23 l4 σ = some ((1 : Int32), σ0) → Go K 23 [.ref 100, .ref 0, .ref 81, .ref 94, .int l4, .null, .null] [] σ) {l4 : Int32} {σ : OM} (h : fL_law_b379 xs L rc23 l4 σ = some ((1 : Int32), σ0)) : Go K 379 [.ref 100, .ref 0, .ref 81, .ref 94, .int l4, .null, .null] [] σ := by
  unfold fL_law_b379 at h
  refine go_aload_n hc dL_law_379 rfl rfl ?_
  obtain ⟨r1, σ2, hf3, h⟩ := obi_some h
  obtain ⟨hg4, h⟩ := ogd_some h
  refine go_callVi hc ho cmX9_where mlL_33 dL_law_380 ok_0 (As := []) (rest := []) (rX9_where (N := 0) hf3 (Nat.le_refl _)) rfl (Nat.le_trans (Nat.le_of_ble_eq_true rfl) hN) rfl (Nat.le_of_ble_eq_true rfl) (Or.inr (of_decide_eq_true hg4)) ?_
  refine go_aload_n hc dL_law_383 rfl rfl ?_
  obtain ⟨r5, σ6, hf7, h⟩ := obi_some h
  obtain ⟨hg8, h⟩ := ogd_some h
  refine go_callVi hc ho cmX10_where mlL_36 dL_law_384 ok_81 (As := []) (rest := [.int r1]) (rX10_where (N := 0) hf7 (Nat.le_refl _)) rfl (Nat.le_trans (Nat.le_of_ble_eq_true rfl) hN) rfl (Nat.le_of_ble_eq_true rfl) (Or.inr (of_decide_eq_true hg8)) ?_
  refine go_icmp_eq (tgt := 1876) hc dL_law_387 rfl (fun hh => ?_) (fun hh => ?_)
  · rw [if_pos hh] at h
    refine go_iinc hc (lv1 := [.ref 100, .ref 0, .ref 81, .ref 94, .int (l4 + 6), .null, .null]) dL_law_1876 rfl ci_6 hL (by decide) (fun _ _ e => by cases e; rfl) rfl ?_
    refine go_goto (tgt := 23) hc dL_law_1879 rfl ?_
    exact hrc23 (l4 + 6) _ h
  · rw [if_neg hh] at h
    refine go_iconst hc dL_law_390 ci_0 ?_
    exact (ol01 h).elim
def fL_law_b366 (xs : Nat → Int32) (L : Nat) (rc23 : Int32 → OM → Option (Int32 × OM)) (l4 : Int32) (σ : OM) : Option (Int32 × OM) :=
  obi (fX9_fault σ) (fun r1 σ2 =>
  ogd (decide (mR σ2 96 0 = mR σ 96 0)) (
  obi (fX10_fault σ2) (fun r5 σ6 =>
  ogd (decide (mR σ6 96 0 = mR σ2 96 0)) (
  if r1 = r5 then (
   rc23 (l4 + 6) σ6)
  else (some ((0 : Int32), σ6))))))
set_option maxRecDepth 100000 in
set_option maxHeartbeats 4000000 in
theorem rL_law_b366 {K : OK} (hc : kcc K = code) (ho : kow K = RL) (hL : knL K = 7) (hN : 1300 ≤ kN K) {xs : Nat → Int32} {L : Nat} (hX0 : oLx K L xs) (hlx : oLz K) {σ0 : OM} {rc23 : Int32 → OM → Option (Int32 × OM)} (hrc23 : ∀ (l4 : Int32) (σ : OM), rc23 l4 σ = some ((1 : Int32), σ0) → Go K 23 [.ref 100, .ref 0, .ref 81, .ref 94, .int l4, .null, .null] [] σ) {l4 : Int32} {σ : OM} (h : fL_law_b366 xs L rc23 l4 σ = some ((1 : Int32), σ0)) : Go K 366 [.ref 100, .ref 0, .ref 81, .ref 94, .int l4, .null, .null] [] σ := by
  unfold fL_law_b366 at h
  refine go_aload_n hc dL_law_366 rfl rfl ?_
  obtain ⟨r1, σ2, hf3, h⟩ := obi_some h
  obtain ⟨hg4, h⟩ := ogd_some h
  refine go_callVi hc ho cmX9_fault mlL_28 dL_law_367 ok_0 (As := []) (rest := []) (rX9_fault (N := 0) hf3 (Nat.le_refl _)) rfl (Nat.le_trans (Nat.le_of_ble_eq_true rfl) hN) rfl (Nat.le_of_ble_eq_true rfl) (Or.inr (of_decide_eq_true hg4)) ?_
  refine go_aload_n hc dL_law_370 rfl rfl ?_
  obtain ⟨r5, σ6, hf7, h⟩ := obi_some h
  obtain ⟨hg8, h⟩ := ogd_some h
  refine go_callVi hc ho cmX10_fault mlL_32 dL_law_371 ok_81 (As := []) (rest := [.int r1]) (rX10_fault (N := 0) hf7 (Nat.le_refl _)) rfl (Nat.le_trans (Nat.le_of_ble_eq_true rfl) hN) rfl (Nat.le_of_ble_eq_true rfl) (Or.inr (of_decide_eq_true hg8)) ?_
  refine go_icmp_eq (tgt := 1876) hc dL_law_374 rfl (fun hh => ?_) (fun hh => ?_)
  · rw [if_pos hh] at h
    refine go_iinc hc (lv1 := [.ref 100, .ref 0, .ref 81, .ref 94, .int (l4 + 6), .null, .null]) dL_law_1876 rfl ci_6 hL (by decide) (fun _ _ e => by cases e; rfl) rfl ?_
    refine go_goto (tgt := 23) hc dL_law_1879 rfl ?_
    exact hrc23 (l4 + 6) _ h
  · rw [if_neg hh] at h
    refine go_iconst hc dL_law_377 ci_0 ?_
    exact (ol01 h).elim
def fL_law_b341 (xs : Nat → Int32) (L : Nat) (rc23 : Int32 → OM → Option (Int32 × OM)) (l4 : Int32) (σ : OM) : Option (Int32 × OM) :=
  ogd (oin (l4 + (1 : Int32)) L) (
  obi (fX9_well (xs (l4 + (1 : Int32)).toNatClampNeg) σ) (fun r2 σ3 =>
  ogd (decide (mR σ3 96 0 = mR σ 96 0)) (
  ogd (oin (l4 + (1 : Int32)) L) (
  obi (fX10_well (xs (l4 + (1 : Int32)).toNatClampNeg) σ3) (fun r7 σ8 =>
  ogd (decide (mR σ8 96 0 = mR σ3 96 0)) (
  if r2 = r7 then (
   rc23 (l4 + 6) σ8)
  else (some ((0 : Int32), σ8))))))))
set_option maxRecDepth 100000 in
set_option maxHeartbeats 4000000 in
theorem rL_law_b341 {K : OK} (hc : kcc K = code) (ho : kow K = RL) (hL : knL K = 7) (hN : 1300 ≤ kN K) {xs : Nat → Int32} {L : Nat} (hX0 : oLx K L xs) (hlx : oLz K) {σ0 : OM} {rc23 : Int32 → OM → Option (Int32 × OM)} (hrc23 : ∀ (l4 : Int32) (σ : OM), rc23 l4 σ = some ((1 : Int32), σ0) → Go K 23 [.ref 100, .ref 0, .ref 81, .ref 94, .int l4, .null, .null] [] σ) {l4 : Int32} {σ : OM} (h : fL_law_b341 xs L rc23 l4 σ = some ((1 : Int32), σ0)) : Go K 341 [.ref 100, .ref 0, .ref 81, .ref 94, .int l4, .null, .null] [] σ := by
  unfold fL_law_b341 at h
  refine go_aload_n hc dL_law_341 rfl rfl ?_
  refine go_aload_n hc dL_law_342 rfl rfl ?_
  refine go_iload hc dL_law_343 rfl ?_
  refine go_iconst hc dL_law_345 ci_1 ?_
  refine go_iadd hc dL_law_346 ?_
  obtain ⟨hg1, h⟩ := ogd_some h
  refine go_scr hc hX0 hg1 dL_law_347 ?_
  obtain ⟨r2, σ3, hf4, h⟩ := obi_some h
  obtain ⟨hg5, h⟩ := ogd_some h
  refine go_callVi hc ho cmX9_well mlL_24 dL_law_348 ok_0 (As := [.int (xs (l4 + (1 : Int32)).toNatClampNeg)]) (rest := []) (rX9_well (N := 7) hf4 (Nat.le_refl _)) rfl (Nat.le_trans (Nat.le_of_ble_eq_true rfl) hN) rfl (Nat.le_of_ble_eq_true rfl) (Or.inr (of_decide_eq_true hg5)) ?_
  refine go_aload_n hc dL_law_351 rfl rfl ?_
  refine go_aload_n hc dL_law_352 rfl rfl ?_
  refine go_iload hc dL_law_353 rfl ?_
  refine go_iconst hc dL_law_355 ci_1 ?_
  refine go_iadd hc dL_law_356 ?_
  obtain ⟨hg6, h⟩ := ogd_some h
  refine go_scr hc hX0 hg6 dL_law_357 ?_
  obtain ⟨r7, σ8, hf9, h⟩ := obi_some h
  obtain ⟨hg10, h⟩ := ogd_some h
  refine go_callVi hc ho cmX10_well mlL_27 dL_law_358 ok_81 (As := [.int (xs (l4 + (1 : Int32)).toNatClampNeg)]) (rest := [.int r2]) (rX10_well (N := 971) hf9 (Nat.le_refl _)) rfl (Nat.le_trans (Nat.le_of_ble_eq_true rfl) hN) rfl (Nat.le_of_ble_eq_true rfl) (Or.inr (of_decide_eq_true hg10)) ?_
  refine go_icmp_eq (tgt := 1876) hc dL_law_361 rfl (fun hh => ?_) (fun hh => ?_)
  · rw [if_pos hh] at h
    refine go_iinc hc (lv1 := [.ref 100, .ref 0, .ref 81, .ref 94, .int (l4 + 6), .null, .null]) dL_law_1876 rfl ci_6 hL (by decide) (fun _ _ e => by cases e; rfl) rfl ?_
    refine go_goto (tgt := 23) hc dL_law_1879 rfl ?_
    exact hrc23 (l4 + 6) _ h
  · rw [if_neg hh] at h
    refine go_iconst hc dL_law_364 ci_0 ?_
    exact (ol01 h).elim
def fL_law_b268 (xs : Nat → Int32) (L : Nat) (rc23 : Int32 → OM → Option (Int32 × OM)) (l4 : Int32) (σ : OM) : Option (Int32 × OM) :=
  ogd (oin (l4 + (1 : Int32)) L) (
  ogd (oin (l4 + (2 : Int32)) L) (
  ogd (oin (l4 + (3 : Int32)) L) (
  ogd (oin (l4 + (4 : Int32)) L) (
  ogd (oin (l4 + (5 : Int32)) L) (
  obi (fX9_feed (xs (l4 + (1 : Int32)).toNatClampNeg) (xs (l4 + (2 : Int32)).toNatClampNeg) (xs (l4 + (3 : Int32)).toNatClampNeg) (xs (l4 + (4 : Int32)).toNatClampNeg) (xs (l4 + (5 : Int32)).toNatClampNeg) σ) (fun r6 σ7 =>
  ogd (decide (mR σ7 96 0 = mR σ 96 0)) (
  ogd (oin (l4 + (1 : Int32)) L) (
  ogd (oin (l4 + (2 : Int32)) L) (
  ogd (oin (l4 + (3 : Int32)) L) (
  ogd (oin (l4 + (4 : Int32)) L) (
  ogd (oin (l4 + (5 : Int32)) L) (
  obi (fX10_feed (xs (l4 + (1 : Int32)).toNatClampNeg) (xs (l4 + (2 : Int32)).toNatClampNeg) (xs (l4 + (3 : Int32)).toNatClampNeg) (xs (l4 + (4 : Int32)).toNatClampNeg) (xs (l4 + (5 : Int32)).toNatClampNeg) σ7) (fun r15 σ16 =>
  ogd (decide (mR σ16 96 0 = mR σ7 96 0)) (
  if r6 = r15 then (
   rc23 (l4 + 6) σ16)
  else (some ((0 : Int32), σ16))))))))))))))))
set_option maxRecDepth 100000 in
set_option maxHeartbeats 4000000 in
theorem rL_law_b268 {K : OK} (hc : kcc K = code) (ho : kow K = RL) (hL : knL K = 7) (hN : 1300 ≤ kN K) {xs : Nat → Int32} {L : Nat} (hX0 : oLx K L xs) (hlx : oLz K) {σ0 : OM} {rc23 : Int32 → OM → Option (Int32 × OM)} (hrc23 : ∀ (l4 : Int32) (σ : OM), rc23 l4 σ = some ((1 : Int32), σ0) → Go K 23 [.ref 100, .ref 0, .ref 81, .ref 94, .int l4, .null, .null] [] σ) {l4 : Int32} {σ : OM} (h : fL_law_b268 xs L rc23 l4 σ = some ((1 : Int32), σ0)) : Go K 268 [.ref 100, .ref 0, .ref 81, .ref 94, .int l4, .null, .null] [] σ := by
  unfold fL_law_b268 at h
  refine go_aload_n hc dL_law_268 rfl rfl ?_
  refine go_aload_n hc dL_law_269 rfl rfl ?_
  refine go_iload hc dL_law_270 rfl ?_
  refine go_iconst hc dL_law_272 ci_1 ?_
  refine go_iadd hc dL_law_273 ?_
  obtain ⟨hg1, h⟩ := ogd_some h
  refine go_scr hc hX0 hg1 dL_law_274 ?_
  refine go_aload_n hc dL_law_275 rfl rfl ?_
  refine go_iload hc dL_law_276 rfl ?_
  refine go_iconst hc dL_law_278 ci_2 ?_
  refine go_iadd hc dL_law_279 ?_
  obtain ⟨hg2, h⟩ := ogd_some h
  refine go_scr hc hX0 hg2 dL_law_280 ?_
  refine go_aload_n hc dL_law_281 rfl rfl ?_
  refine go_iload hc dL_law_282 rfl ?_
  refine go_iconst hc dL_law_284 ci_3 ?_
  refine go_iadd hc dL_law_285 ?_
  obtain ⟨hg3, h⟩ := ogd_some h
  refine go_scr hc hX0 hg3 dL_law_286 ?_
  refine go_aload_n hc dL_law_287 rfl rfl ?_
  refine go_iload hc dL_law_288 rfl ?_
  refine go_iconst hc dL_law_290 ci_4 ?_
  refine go_iadd hc dL_law_291 ?_
  obtain ⟨hg4, h⟩ := ogd_some h
  refine go_scr hc hX0 hg4 dL_law_292 ?_
  refine go_aload_n hc dL_law_293 rfl rfl ?_
  refine go_iload hc dL_law_294 rfl ?_
  refine go_iconst hc dL_law_296 ci_5 ?_
  refine go_iadd hc dL_law_297 ?_
  obtain ⟨hg5, h⟩ := ogd_some h
  refine go_scr hc hX0 hg5 dL_law_298 ?_
  obtain ⟨r6, σ7, hf8, h⟩ := obi_some h
  obtain ⟨hg9, h⟩ := ogd_some h
  refine go_callVi hc ho cmX9_feed mlL_19 dL_law_299 ok_0 (As := [.int (xs (l4 + (1 : Int32)).toNatClampNeg), .int (xs (l4 + (2 : Int32)).toNatClampNeg), .int (xs (l4 + (3 : Int32)).toNatClampNeg), .int (xs (l4 + (4 : Int32)).toNatClampNeg), .int (xs (l4 + (5 : Int32)).toNatClampNeg)]) (rest := []) (rX9_feed (N := 1) hf8 (Nat.le_refl _)) rfl (Nat.le_trans (Nat.le_of_ble_eq_true rfl) hN) rfl (Nat.le_of_ble_eq_true rfl) (Or.inr (of_decide_eq_true hg9)) ?_
  refine go_aload_n hc dL_law_302 rfl rfl ?_
  refine go_aload_n hc dL_law_303 rfl rfl ?_
  refine go_iload hc dL_law_304 rfl ?_
  refine go_iconst hc dL_law_306 ci_1 ?_
  refine go_iadd hc dL_law_307 ?_
  obtain ⟨hg10, h⟩ := ogd_some h
  refine go_scr hc hX0 hg10 dL_law_308 ?_
  refine go_aload_n hc dL_law_309 rfl rfl ?_
  refine go_iload hc dL_law_310 rfl ?_
  refine go_iconst hc dL_law_312 ci_2 ?_
  refine go_iadd hc dL_law_313 ?_
  obtain ⟨hg11, h⟩ := ogd_some h
  refine go_scr hc hX0 hg11 dL_law_314 ?_
  refine go_aload_n hc dL_law_315 rfl rfl ?_
  refine go_iload hc dL_law_316 rfl ?_
  refine go_iconst hc dL_law_318 ci_3 ?_
  refine go_iadd hc dL_law_319 ?_
  obtain ⟨hg12, h⟩ := ogd_some h
  refine go_scr hc hX0 hg12 dL_law_320 ?_
  refine go_aload_n hc dL_law_321 rfl rfl ?_
  refine go_iload hc dL_law_322 rfl ?_
  refine go_iconst hc dL_law_324 ci_4 ?_
  refine go_iadd hc dL_law_325 ?_
  obtain ⟨hg13, h⟩ := ogd_some h
  refine go_scr hc hX0 hg13 dL_law_326 ?_
  refine go_aload_n hc dL_law_327 rfl rfl ?_
  refine go_iload hc dL_law_328 rfl ?_
  refine go_iconst hc dL_law_330 ci_5 ?_
  refine go_iadd hc dL_law_331 ?_
  obtain ⟨hg14, h⟩ := ogd_some h
  refine go_scr hc hX0 hg14 dL_law_332 ?_
  obtain ⟨r15, σ16, hf17, h⟩ := obi_some h
  obtain ⟨hg18, h⟩ := ogd_some h
  refine go_callVi hc ho cmX10_feed mlL_23 dL_law_333 ok_81 (As := [.int (xs (l4 + (1 : Int32)).toNatClampNeg), .int (xs (l4 + (2 : Int32)).toNatClampNeg), .int (xs (l4 + (3 : Int32)).toNatClampNeg), .int (xs (l4 + (4 : Int32)).toNatClampNeg), .int (xs (l4 + (5 : Int32)).toNatClampNeg)]) (rest := [.int r6]) (rX10_feed (N := 0) hf17 (Nat.le_refl _)) rfl (Nat.le_trans (Nat.le_of_ble_eq_true rfl) hN) rfl (Nat.le_of_ble_eq_true rfl) (Or.inr (of_decide_eq_true hg18)) ?_
  refine go_icmp_eq (tgt := 1876) hc dL_law_336 rfl (fun hh => ?_) (fun hh => ?_)
  · rw [if_pos hh] at h
    refine go_iinc hc (lv1 := [.ref 100, .ref 0, .ref 81, .ref 94, .int (l4 + 6), .null, .null]) dL_law_1876 rfl ci_6 hL (by decide) (fun _ _ e => by cases e; rfl) rfl ?_
    refine go_goto (tgt := 23) hc dL_law_1879 rfl ?_
    exact hrc23 (l4 + 6) _ h
  · rw [if_neg hh] at h
    refine go_iconst hc dL_law_339 ci_0 ?_
    exact (ol01 h).elim
def fL_law_b23 (xs : Nat → Int32) (L : Nat) : Nat → Int32 → OM → Option (Int32 × OM)
  | 0, _, _ => none
  | n + 1, l4, σ =>
    if ((Int32.ofNat L) - (6 : Int32)) < l4 then (
     some ((1 : Int32), σ))
    else (ogd (oin l4 L) (
    if ((xs l4.toNatClampNeg) &&& (63 : Int32)) = 0 then (
     fL_law_b268 xs L (fL_law_b23 xs L n) l4 σ)
    else if ((xs l4.toNatClampNeg) &&& (63 : Int32)) = 1 then (
     fL_law_b341 xs L (fL_law_b23 xs L n) l4 σ)
    else if ((xs l4.toNatClampNeg) &&& (63 : Int32)) = 2 then (
     fL_law_b366 xs L (fL_law_b23 xs L n) l4 σ)
    else if ((xs l4.toNatClampNeg) &&& (63 : Int32)) = 3 then (
     fL_law_b379 xs L (fL_law_b23 xs L n) l4 σ)
    else if ((xs l4.toNatClampNeg) &&& (63 : Int32)) = 4 then (
     fL_law_b392 xs L (fL_law_b23 xs L n) l4 σ)
    else if ((xs l4.toNatClampNeg) &&& (63 : Int32)) = 5 then (
     fL_law_b417 xs L (fL_law_b23 xs L n) l4 σ)
    else if ((xs l4.toNatClampNeg) &&& (63 : Int32)) = 6 then (
     fL_law_b430 xs L (fL_law_b23 xs L n) l4 σ)
    else if ((xs l4.toNatClampNeg) &&& (63 : Int32)) = 7 then (
     fL_law_b455 xs L (fL_law_b23 xs L n) l4 σ)
    else if ((xs l4.toNatClampNeg) &&& (63 : Int32)) = 8 then (
     fL_law_b492 xs L (fL_law_b23 xs L n) l4 σ)
    else if ((xs l4.toNatClampNeg) &&& (63 : Int32)) = 9 then (
     fL_law_b546 xs L (fL_law_b23 xs L n) l4 σ)
    else if ((xs l4.toNatClampNeg) &&& (63 : Int32)) = 10 then (
     fL_law_b571 xs L (fL_law_b23 xs L n) l4 σ)
    else if ((xs l4.toNatClampNeg) &&& (63 : Int32)) = 11 then (
     fL_law_b608 xs L (fL_law_b23 xs L n) l4 σ)
    else if ((xs l4.toNatClampNeg) &&& (63 : Int32)) = 12 then (
     fL_law_b621 xs L (fL_law_b23 xs L n) l4 σ)
    else if ((xs l4.toNatClampNeg) &&& (63 : Int32)) = 13 then (
     fL_law_b634 xs L (fL_law_b23 xs L n) l4 σ)
    else if ((xs l4.toNatClampNeg) &&& (63 : Int32)) = 14 then (
     fL_law_b659 xs L (fL_law_b23 xs L n) l4 σ)
    else if ((xs l4.toNatClampNeg) &&& (63 : Int32)) = 15 then (
     fL_law_b684 xs L (fL_law_b23 xs L n) l4 σ)
    else if ((xs l4.toNatClampNeg) &&& (63 : Int32)) = 16 then (
     fL_law_b709 xs L (fL_law_b23 xs L n) l4 σ)
    else if ((xs l4.toNatClampNeg) &&& (63 : Int32)) = 17 then (
     fL_law_b746 xs L (fL_law_b23 xs L n) l4 σ)
    else if ((xs l4.toNatClampNeg) &&& (63 : Int32)) = 18 then (
     fL_law_b783 xs L (fL_law_b23 xs L n) l4 σ)
    else if ((xs l4.toNatClampNeg) &&& (63 : Int32)) = 19 then (
     fL_law_b808 xs L (fL_law_b23 xs L n) l4 σ)
    else if ((xs l4.toNatClampNeg) &&& (63 : Int32)) = 20 then (
     fL_law_b821 xs L (fL_law_b23 xs L n) l4 σ)
    else if ((xs l4.toNatClampNeg) &&& (63 : Int32)) = 21 then (
     fL_law_b834 xs L (fL_law_b23 xs L n) l4 σ)
    else if ((xs l4.toNatClampNeg) &&& (63 : Int32)) = 22 then (
     fL_law_b859 xs L (fL_law_b23 xs L n) l4 σ)
    else if ((xs l4.toNatClampNeg) &&& (63 : Int32)) = 23 then (
     fL_law_b925 xs L (fL_law_b23 xs L n) l4 σ)
    else if ((xs l4.toNatClampNeg) &&& (63 : Int32)) = 24 then (
     fL_law_b990 xs L (fL_law_b23 xs L n) l4 σ)
    else if ((xs l4.toNatClampNeg) &&& (63 : Int32)) = 25 then (
     fL_law_b1015 xs L (fL_law_b23 xs L n) l4 σ)
    else if ((xs l4.toNatClampNeg) &&& (63 : Int32)) = 26 then (
     fL_law_b1052 xs L (fL_law_b23 xs L n) l4 σ)
    else if ((xs l4.toNatClampNeg) &&& (63 : Int32)) = 27 then (
     fL_law_b1065 xs L (fL_law_b23 xs L n) l4 σ)
    else if ((xs l4.toNatClampNeg) &&& (63 : Int32)) = 28 then (
     fL_law_b1090 xs L (fL_law_b23 xs L n) l4 σ)
    else if ((xs l4.toNatClampNeg) &&& (63 : Int32)) = 29 then (
     fL_law_b1115 xs L (fL_law_b23 xs L n) l4 σ)
    else if ((xs l4.toNatClampNeg) &&& (63 : Int32)) = 30 then (
     fL_law_b1140 xs L (fL_law_b23 xs L n) l4 σ)
    else if ((xs l4.toNatClampNeg) &&& (63 : Int32)) = 31 then (
     fL_law_b1165 xs L (fL_law_b23 xs L n) l4 σ)
    else if ((xs l4.toNatClampNeg) &&& (63 : Int32)) = 32 then (
     fL_law_b1190 xs L (fL_law_b23 xs L n) l4 σ)
    else if ((xs l4.toNatClampNeg) &&& (63 : Int32)) = 33 then (
     fL_law_b1215 xs L (fL_law_b23 xs L n) l4 σ)
    else if ((xs l4.toNatClampNeg) &&& (63 : Int32)) = 34 then (
     fL_law_b1281 xs L (fL_law_b23 xs L n) l4 σ)
    else if ((xs l4.toNatClampNeg) &&& (63 : Int32)) = 35 then (
     fL_law_b1294 xs L (fL_law_b23 xs L n) l4 σ)
    else if ((xs l4.toNatClampNeg) &&& (63 : Int32)) = 36 then (
     fL_law_b1331 xs L (fL_law_b23 xs L n) l4 σ)
    else if ((xs l4.toNatClampNeg) &&& (63 : Int32)) = 37 then (
     fL_law_b1368 xs L (fL_law_b23 xs L n) l4 σ)
    else if ((xs l4.toNatClampNeg) &&& (63 : Int32)) = 38 then (
     fL_law_b1434 xs L (fL_law_b23 xs L n) l4 σ)
    else if ((xs l4.toNatClampNeg) &&& (63 : Int32)) = 39 then (
     fL_law_b1471 xs L (fL_law_b23 xs L n) l4 σ)
    else if ((xs l4.toNatClampNeg) &&& (63 : Int32)) = 40 then (
     fL_law_b1496 xs L (fL_law_b23 xs L n) l4 σ)
    else if ((xs l4.toNatClampNeg) &&& (63 : Int32)) = 41 then (
     fL_law_b1521 xs L (fL_law_b23 xs L n) l4 σ)
    else if ((xs l4.toNatClampNeg) &&& (63 : Int32)) = 42 then (
     fL_law_b1546 xs L (fL_law_b23 xs L n) l4 σ)
    else if ((xs l4.toNatClampNeg) &&& (63 : Int32)) = 43 then (
     fL_law_b1595 xs L (fL_law_b23 xs L n) l4 σ)
    else if ((xs l4.toNatClampNeg) &&& (63 : Int32)) = 44 then (
     fL_law_b1632 xs L (fL_law_b23 xs L n) l4 σ)
    else if ((xs l4.toNatClampNeg) &&& (63 : Int32)) = 45 then (
     fL_law_b1669 xs L (fL_law_b23 xs L n) l4 σ)
    else if ((xs l4.toNatClampNeg) &&& (63 : Int32)) = 46 then (
     fL_law_b1706 xs L (fL_law_b23 xs L n) l4 σ)
    else if ((xs l4.toNatClampNeg) &&& (63 : Int32)) = 47 then (
     fL_law_b1731 xs L (fL_law_b23 xs L n) l4 σ)
    else if ((xs l4.toNatClampNeg) &&& (63 : Int32)) = 48 then (
     fL_law_b1744 xs L (fL_law_b23 xs L n) l4 σ)
    else if ((xs l4.toNatClampNeg) &&& (63 : Int32)) = 49 then (
     fL_law_b1757 xs L (fL_law_b23 xs L n) l4 σ)
    else if ((xs l4.toNatClampNeg) &&& (63 : Int32)) = 50 then (
     fL_law_b1782 xs L (fL_law_b23 xs L n) l4 σ)
    else if ((xs l4.toNatClampNeg) &&& (63 : Int32)) = 51 then (
     fL_law_b1838 xs L (fL_law_b23 xs L n) l4 σ)
    else if ((xs l4.toNatClampNeg) &&& (63 : Int32)) = 52 then (
     fL_law_b1863 xs L (fL_law_b23 xs L n) l4 σ)
    else (fL_law_b23 xs L n (l4 + 6) σ)))
set_option maxRecDepth 100000 in
set_option maxHeartbeats 8000000 in
theorem rL_law_b23 {K : OK} (hc : kcc K = code) (ho : kow K = RL) (hL : knL K = 7) (hN : 1300 ≤ kN K) {xs : Nat → Int32} {L : Nat} (hX0 : oLx K L xs) (hlx : oLz K) {σ0 : OM} : ∀ (n : Nat) (l4 : Int32) (σ : OM), fL_law_b23 xs L n l4 σ = some ((1 : Int32), σ0) → Go K 23 [.ref 100, .ref 0, .ref 81, .ref 94, .int l4, .null, .null] [] σ := by
  intro n
  induction n with
  | zero =>
    intro l4 σ h
    cases h
  | succ n ih =>
    intro l4 σ h
    rw [fL_law_b23] at h
    refine go_iload hc dL_law_23 rfl ?_
    refine go_aload_n hc dL_law_25 rfl rfl ?_
    refine go_sle hc hX0 dL_law_26 ?_
    refine go_bipush hc dL_law_27 cb_6 ?_
    refine go_isub hc dL_law_29 ?_
    refine go_icmp_gt (tgt := 1882) hc dL_law_30 rfl (fun hh => ?_) (fun hh => ?_)
    · rw [if_pos hh] at h
      refine go_iconst hc dL_law_1882 ci_1 ?_
      exact go_lret1 hc hlx h dL_law_1883
    · rw [if_neg hh] at h
      refine go_aload_n hc dL_law_33 rfl rfl ?_
      refine go_iload hc dL_law_34 rfl ?_
      obtain ⟨hg1, h⟩ := ogd_some h
      refine go_scr hc hX0 hg1 dL_law_36 ?_
      refine go_bipush hc dL_law_37 cb_63 ?_
      refine go_iand hc dL_law_39 ?_
      by_cases e0 : ((xs l4.toNatClampNeg) &&& (63 : Int32)) = 0
      · rw [if_pos e0] at h
        refine go_tabIn (tgt := 268) (off := 228) hc dL_law_40 (by rw [e0]; decide) (by rw [e0]; decide) (by rw [e0]; decide +kernel) rfl ?_
        exact rL_law_b268 hc ho hL hN hX0 hlx ih h
      rw [if_neg e0] at h
      by_cases e1 : ((xs l4.toNatClampNeg) &&& (63 : Int32)) = 1
      · rw [if_pos e1] at h
        refine go_tabIn (tgt := 341) (off := 301) hc dL_law_40 (by rw [e1]; decide) (by rw [e1]; decide) (by rw [e1]; decide +kernel) rfl ?_
        exact rL_law_b341 hc ho hL hN hX0 hlx ih h
      rw [if_neg e1] at h
      by_cases e2 : ((xs l4.toNatClampNeg) &&& (63 : Int32)) = 2
      · rw [if_pos e2] at h
        refine go_tabIn (tgt := 366) (off := 326) hc dL_law_40 (by rw [e2]; decide) (by rw [e2]; decide) (by rw [e2]; decide +kernel) rfl ?_
        exact rL_law_b366 hc ho hL hN hX0 hlx ih h
      rw [if_neg e2] at h
      by_cases e3 : ((xs l4.toNatClampNeg) &&& (63 : Int32)) = 3
      · rw [if_pos e3] at h
        refine go_tabIn (tgt := 379) (off := 339) hc dL_law_40 (by rw [e3]; decide) (by rw [e3]; decide) (by rw [e3]; decide +kernel) rfl ?_
        exact rL_law_b379 hc ho hL hN hX0 hlx ih h
      rw [if_neg e3] at h
      by_cases e4 : ((xs l4.toNatClampNeg) &&& (63 : Int32)) = 4
      · rw [if_pos e4] at h
        refine go_tabIn (tgt := 392) (off := 352) hc dL_law_40 (by rw [e4]; decide) (by rw [e4]; decide) (by rw [e4]; decide +kernel) rfl ?_
        exact rL_law_b392 hc ho hL hN hX0 hlx ih h
      rw [if_neg e4] at h
      by_cases e5 : ((xs l4.toNatClampNeg) &&& (63 : Int32)) = 5
      · rw [if_pos e5] at h
        refine go_tabIn (tgt := 417) (off := 377) hc dL_law_40 (by rw [e5]; decide) (by rw [e5]; decide) (by rw [e5]; decide +kernel) rfl ?_
        exact rL_law_b417 hc ho hL hN hX0 hlx ih h
      rw [if_neg e5] at h
      by_cases e6 : ((xs l4.toNatClampNeg) &&& (63 : Int32)) = 6
      · rw [if_pos e6] at h
        refine go_tabIn (tgt := 430) (off := 390) hc dL_law_40 (by rw [e6]; decide) (by rw [e6]; decide) (by rw [e6]; decide +kernel) rfl ?_
        exact rL_law_b430 hc ho hL hN hX0 hlx ih h
      rw [if_neg e6] at h
      by_cases e7 : ((xs l4.toNatClampNeg) &&& (63 : Int32)) = 7
      · rw [if_pos e7] at h
        refine go_tabIn (tgt := 455) (off := 415) hc dL_law_40 (by rw [e7]; decide) (by rw [e7]; decide) (by rw [e7]; decide +kernel) rfl ?_
        exact rL_law_b455 hc ho hL hN hX0 hlx ih h
      rw [if_neg e7] at h
      by_cases e8 : ((xs l4.toNatClampNeg) &&& (63 : Int32)) = 8
      · rw [if_pos e8] at h
        refine go_tabIn (tgt := 492) (off := 452) hc dL_law_40 (by rw [e8]; decide) (by rw [e8]; decide) (by rw [e8]; decide +kernel) rfl ?_
        exact rL_law_b492 hc ho hL hN hX0 hlx ih h
      rw [if_neg e8] at h
      by_cases e9 : ((xs l4.toNatClampNeg) &&& (63 : Int32)) = 9
      · rw [if_pos e9] at h
        refine go_tabIn (tgt := 546) (off := 506) hc dL_law_40 (by rw [e9]; decide) (by rw [e9]; decide) (by rw [e9]; decide +kernel) rfl ?_
        exact rL_law_b546 hc ho hL hN hX0 hlx ih h
      rw [if_neg e9] at h
      by_cases e10 : ((xs l4.toNatClampNeg) &&& (63 : Int32)) = 10
      · rw [if_pos e10] at h
        refine go_tabIn (tgt := 571) (off := 531) hc dL_law_40 (by rw [e10]; decide) (by rw [e10]; decide) (by rw [e10]; decide +kernel) rfl ?_
        exact rL_law_b571 hc ho hL hN hX0 hlx ih h
      rw [if_neg e10] at h
      by_cases e11 : ((xs l4.toNatClampNeg) &&& (63 : Int32)) = 11
      · rw [if_pos e11] at h
        refine go_tabIn (tgt := 608) (off := 568) hc dL_law_40 (by rw [e11]; decide) (by rw [e11]; decide) (by rw [e11]; decide +kernel) rfl ?_
        exact rL_law_b608 hc ho hL hN hX0 hlx ih h
      rw [if_neg e11] at h
      by_cases e12 : ((xs l4.toNatClampNeg) &&& (63 : Int32)) = 12
      · rw [if_pos e12] at h
        refine go_tabIn (tgt := 621) (off := 581) hc dL_law_40 (by rw [e12]; decide) (by rw [e12]; decide) (by rw [e12]; decide +kernel) rfl ?_
        exact rL_law_b621 hc ho hL hN hX0 hlx ih h
      rw [if_neg e12] at h
      by_cases e13 : ((xs l4.toNatClampNeg) &&& (63 : Int32)) = 13
      · rw [if_pos e13] at h
        refine go_tabIn (tgt := 634) (off := 594) hc dL_law_40 (by rw [e13]; decide) (by rw [e13]; decide) (by rw [e13]; decide +kernel) rfl ?_
        exact rL_law_b634 hc ho hL hN hX0 hlx ih h
      rw [if_neg e13] at h
      by_cases e14 : ((xs l4.toNatClampNeg) &&& (63 : Int32)) = 14
      · rw [if_pos e14] at h
        refine go_tabIn (tgt := 659) (off := 619) hc dL_law_40 (by rw [e14]; decide) (by rw [e14]; decide) (by rw [e14]; decide +kernel) rfl ?_
        exact rL_law_b659 hc ho hL hN hX0 hlx ih h
      rw [if_neg e14] at h
      by_cases e15 : ((xs l4.toNatClampNeg) &&& (63 : Int32)) = 15
      · rw [if_pos e15] at h
        refine go_tabIn (tgt := 684) (off := 644) hc dL_law_40 (by rw [e15]; decide) (by rw [e15]; decide) (by rw [e15]; decide +kernel) rfl ?_
        exact rL_law_b684 hc ho hL hN hX0 hlx ih h
      rw [if_neg e15] at h
      by_cases e16 : ((xs l4.toNatClampNeg) &&& (63 : Int32)) = 16
      · rw [if_pos e16] at h
        refine go_tabIn (tgt := 709) (off := 669) hc dL_law_40 (by rw [e16]; decide) (by rw [e16]; decide) (by rw [e16]; decide +kernel) rfl ?_
        exact rL_law_b709 hc ho hL hN hX0 hlx ih h
      rw [if_neg e16] at h
      by_cases e17 : ((xs l4.toNatClampNeg) &&& (63 : Int32)) = 17
      · rw [if_pos e17] at h
        refine go_tabIn (tgt := 746) (off := 706) hc dL_law_40 (by rw [e17]; decide) (by rw [e17]; decide) (by rw [e17]; decide +kernel) rfl ?_
        exact rL_law_b746 hc ho hL hN hX0 hlx ih h
      rw [if_neg e17] at h
      by_cases e18 : ((xs l4.toNatClampNeg) &&& (63 : Int32)) = 18
      · rw [if_pos e18] at h
        refine go_tabIn (tgt := 783) (off := 743) hc dL_law_40 (by rw [e18]; decide) (by rw [e18]; decide) (by rw [e18]; decide +kernel) rfl ?_
        exact rL_law_b783 hc ho hL hN hX0 hlx ih h
      rw [if_neg e18] at h
      by_cases e19 : ((xs l4.toNatClampNeg) &&& (63 : Int32)) = 19
      · rw [if_pos e19] at h
        refine go_tabIn (tgt := 808) (off := 768) hc dL_law_40 (by rw [e19]; decide) (by rw [e19]; decide) (by rw [e19]; decide +kernel) rfl ?_
        exact rL_law_b808 hc ho hL hN hX0 hlx ih h
      rw [if_neg e19] at h
      by_cases e20 : ((xs l4.toNatClampNeg) &&& (63 : Int32)) = 20
      · rw [if_pos e20] at h
        refine go_tabIn (tgt := 821) (off := 781) hc dL_law_40 (by rw [e20]; decide) (by rw [e20]; decide) (by rw [e20]; decide +kernel) rfl ?_
        exact rL_law_b821 hc ho hL hN hX0 hlx ih h
      rw [if_neg e20] at h
      by_cases e21 : ((xs l4.toNatClampNeg) &&& (63 : Int32)) = 21
      · rw [if_pos e21] at h
        refine go_tabIn (tgt := 834) (off := 794) hc dL_law_40 (by rw [e21]; decide) (by rw [e21]; decide) (by rw [e21]; decide +kernel) rfl ?_
        exact rL_law_b834 hc ho hL hN hX0 hlx ih h
      rw [if_neg e21] at h
      by_cases e22 : ((xs l4.toNatClampNeg) &&& (63 : Int32)) = 22
      · rw [if_pos e22] at h
        refine go_tabIn (tgt := 859) (off := 819) hc dL_law_40 (by rw [e22]; decide) (by rw [e22]; decide) (by rw [e22]; decide +kernel) rfl ?_
        exact rL_law_b859 hc ho hL hN hX0 hlx ih h
      rw [if_neg e22] at h
      by_cases e23 : ((xs l4.toNatClampNeg) &&& (63 : Int32)) = 23
      · rw [if_pos e23] at h
        refine go_tabIn (tgt := 925) (off := 885) hc dL_law_40 (by rw [e23]; decide) (by rw [e23]; decide) (by rw [e23]; decide +kernel) rfl ?_
        exact rL_law_b925 hc ho hL hN hX0 hlx ih h
      rw [if_neg e23] at h
      by_cases e24 : ((xs l4.toNatClampNeg) &&& (63 : Int32)) = 24
      · rw [if_pos e24] at h
        refine go_tabIn (tgt := 990) (off := 950) hc dL_law_40 (by rw [e24]; decide) (by rw [e24]; decide) (by rw [e24]; decide +kernel) rfl ?_
        exact rL_law_b990 hc ho hL hN hX0 hlx ih h
      rw [if_neg e24] at h
      by_cases e25 : ((xs l4.toNatClampNeg) &&& (63 : Int32)) = 25
      · rw [if_pos e25] at h
        refine go_tabIn (tgt := 1015) (off := 975) hc dL_law_40 (by rw [e25]; decide) (by rw [e25]; decide) (by rw [e25]; decide +kernel) rfl ?_
        exact rL_law_b1015 hc ho hL hN hX0 hlx ih h
      rw [if_neg e25] at h
      by_cases e26 : ((xs l4.toNatClampNeg) &&& (63 : Int32)) = 26
      · rw [if_pos e26] at h
        refine go_tabIn (tgt := 1052) (off := 1012) hc dL_law_40 (by rw [e26]; decide) (by rw [e26]; decide) (by rw [e26]; decide +kernel) rfl ?_
        exact rL_law_b1052 hc ho hL hN hX0 hlx ih h
      rw [if_neg e26] at h
      by_cases e27 : ((xs l4.toNatClampNeg) &&& (63 : Int32)) = 27
      · rw [if_pos e27] at h
        refine go_tabIn (tgt := 1065) (off := 1025) hc dL_law_40 (by rw [e27]; decide) (by rw [e27]; decide) (by rw [e27]; decide +kernel) rfl ?_
        exact rL_law_b1065 hc ho hL hN hX0 hlx ih h
      rw [if_neg e27] at h
      by_cases e28 : ((xs l4.toNatClampNeg) &&& (63 : Int32)) = 28
      · rw [if_pos e28] at h
        refine go_tabIn (tgt := 1090) (off := 1050) hc dL_law_40 (by rw [e28]; decide) (by rw [e28]; decide) (by rw [e28]; decide +kernel) rfl ?_
        exact rL_law_b1090 hc ho hL hN hX0 hlx ih h
      rw [if_neg e28] at h
      by_cases e29 : ((xs l4.toNatClampNeg) &&& (63 : Int32)) = 29
      · rw [if_pos e29] at h
        refine go_tabIn (tgt := 1115) (off := 1075) hc dL_law_40 (by rw [e29]; decide) (by rw [e29]; decide) (by rw [e29]; decide +kernel) rfl ?_
        exact rL_law_b1115 hc ho hL hN hX0 hlx ih h
      rw [if_neg e29] at h
      by_cases e30 : ((xs l4.toNatClampNeg) &&& (63 : Int32)) = 30
      · rw [if_pos e30] at h
        refine go_tabIn (tgt := 1140) (off := 1100) hc dL_law_40 (by rw [e30]; decide) (by rw [e30]; decide) (by rw [e30]; decide +kernel) rfl ?_
        exact rL_law_b1140 hc ho hL hN hX0 hlx ih h
      rw [if_neg e30] at h
      by_cases e31 : ((xs l4.toNatClampNeg) &&& (63 : Int32)) = 31
      · rw [if_pos e31] at h
        refine go_tabIn (tgt := 1165) (off := 1125) hc dL_law_40 (by rw [e31]; decide) (by rw [e31]; decide) (by rw [e31]; decide +kernel) rfl ?_
        exact rL_law_b1165 hc ho hL hN hX0 hlx ih h
      rw [if_neg e31] at h
      by_cases e32 : ((xs l4.toNatClampNeg) &&& (63 : Int32)) = 32
      · rw [if_pos e32] at h
        refine go_tabIn (tgt := 1190) (off := 1150) hc dL_law_40 (by rw [e32]; decide) (by rw [e32]; decide) (by rw [e32]; decide +kernel) rfl ?_
        exact rL_law_b1190 hc ho hL hN hX0 hlx ih h
      rw [if_neg e32] at h
      by_cases e33 : ((xs l4.toNatClampNeg) &&& (63 : Int32)) = 33
      · rw [if_pos e33] at h
        refine go_tabIn (tgt := 1215) (off := 1175) hc dL_law_40 (by rw [e33]; decide) (by rw [e33]; decide) (by rw [e33]; decide +kernel) rfl ?_
        exact rL_law_b1215 hc ho hL hN hX0 hlx ih h
      rw [if_neg e33] at h
      by_cases e34 : ((xs l4.toNatClampNeg) &&& (63 : Int32)) = 34
      · rw [if_pos e34] at h
        refine go_tabIn (tgt := 1281) (off := 1241) hc dL_law_40 (by rw [e34]; decide) (by rw [e34]; decide) (by rw [e34]; decide +kernel) rfl ?_
        exact rL_law_b1281 hc ho hL hN hX0 hlx ih h
      rw [if_neg e34] at h
      by_cases e35 : ((xs l4.toNatClampNeg) &&& (63 : Int32)) = 35
      · rw [if_pos e35] at h
        refine go_tabIn (tgt := 1294) (off := 1254) hc dL_law_40 (by rw [e35]; decide) (by rw [e35]; decide) (by rw [e35]; decide +kernel) rfl ?_
        exact rL_law_b1294 hc ho hL hN hX0 hlx ih h
      rw [if_neg e35] at h
      by_cases e36 : ((xs l4.toNatClampNeg) &&& (63 : Int32)) = 36
      · rw [if_pos e36] at h
        refine go_tabIn (tgt := 1331) (off := 1291) hc dL_law_40 (by rw [e36]; decide) (by rw [e36]; decide) (by rw [e36]; decide +kernel) rfl ?_
        exact rL_law_b1331 hc ho hL hN hX0 hlx ih h
      rw [if_neg e36] at h
      by_cases e37 : ((xs l4.toNatClampNeg) &&& (63 : Int32)) = 37
      · rw [if_pos e37] at h
        refine go_tabIn (tgt := 1368) (off := 1328) hc dL_law_40 (by rw [e37]; decide) (by rw [e37]; decide) (by rw [e37]; decide +kernel) rfl ?_
        exact rL_law_b1368 hc ho hL hN hX0 hlx ih h
      rw [if_neg e37] at h
      by_cases e38 : ((xs l4.toNatClampNeg) &&& (63 : Int32)) = 38
      · rw [if_pos e38] at h
        refine go_tabIn (tgt := 1434) (off := 1394) hc dL_law_40 (by rw [e38]; decide) (by rw [e38]; decide) (by rw [e38]; decide +kernel) rfl ?_
        exact rL_law_b1434 hc ho hL hN hX0 hlx ih h
      rw [if_neg e38] at h
      by_cases e39 : ((xs l4.toNatClampNeg) &&& (63 : Int32)) = 39
      · rw [if_pos e39] at h
        refine go_tabIn (tgt := 1471) (off := 1431) hc dL_law_40 (by rw [e39]; decide) (by rw [e39]; decide) (by rw [e39]; decide +kernel) rfl ?_
        exact rL_law_b1471 hc ho hL hN hX0 hlx ih h
      rw [if_neg e39] at h
      by_cases e40 : ((xs l4.toNatClampNeg) &&& (63 : Int32)) = 40
      · rw [if_pos e40] at h
        refine go_tabIn (tgt := 1496) (off := 1456) hc dL_law_40 (by rw [e40]; decide) (by rw [e40]; decide) (by rw [e40]; decide +kernel) rfl ?_
        exact rL_law_b1496 hc ho hL hN hX0 hlx ih h
      rw [if_neg e40] at h
      by_cases e41 : ((xs l4.toNatClampNeg) &&& (63 : Int32)) = 41
      · rw [if_pos e41] at h
        refine go_tabIn (tgt := 1521) (off := 1481) hc dL_law_40 (by rw [e41]; decide) (by rw [e41]; decide) (by rw [e41]; decide +kernel) rfl ?_
        exact rL_law_b1521 hc ho hL hN hX0 hlx ih h
      rw [if_neg e41] at h
      by_cases e42 : ((xs l4.toNatClampNeg) &&& (63 : Int32)) = 42
      · rw [if_pos e42] at h
        refine go_tabIn (tgt := 1546) (off := 1506) hc dL_law_40 (by rw [e42]; decide) (by rw [e42]; decide) (by rw [e42]; decide +kernel) rfl ?_
        exact rL_law_b1546 hc ho hL hN hX0 hlx ih h
      rw [if_neg e42] at h
      by_cases e43 : ((xs l4.toNatClampNeg) &&& (63 : Int32)) = 43
      · rw [if_pos e43] at h
        refine go_tabIn (tgt := 1595) (off := 1555) hc dL_law_40 (by rw [e43]; decide) (by rw [e43]; decide) (by rw [e43]; decide +kernel) rfl ?_
        exact rL_law_b1595 hc ho hL hN hX0 hlx ih h
      rw [if_neg e43] at h
      by_cases e44 : ((xs l4.toNatClampNeg) &&& (63 : Int32)) = 44
      · rw [if_pos e44] at h
        refine go_tabIn (tgt := 1632) (off := 1592) hc dL_law_40 (by rw [e44]; decide) (by rw [e44]; decide) (by rw [e44]; decide +kernel) rfl ?_
        exact rL_law_b1632 hc ho hL hN hX0 hlx ih h
      rw [if_neg e44] at h
      by_cases e45 : ((xs l4.toNatClampNeg) &&& (63 : Int32)) = 45
      · rw [if_pos e45] at h
        refine go_tabIn (tgt := 1669) (off := 1629) hc dL_law_40 (by rw [e45]; decide) (by rw [e45]; decide) (by rw [e45]; decide +kernel) rfl ?_
        exact rL_law_b1669 hc ho hL hN hX0 hlx ih h
      rw [if_neg e45] at h
      by_cases e46 : ((xs l4.toNatClampNeg) &&& (63 : Int32)) = 46
      · rw [if_pos e46] at h
        refine go_tabIn (tgt := 1706) (off := 1666) hc dL_law_40 (by rw [e46]; decide) (by rw [e46]; decide) (by rw [e46]; decide +kernel) rfl ?_
        exact rL_law_b1706 hc ho hL hN hX0 hlx ih h
      rw [if_neg e46] at h
      by_cases e47 : ((xs l4.toNatClampNeg) &&& (63 : Int32)) = 47
      · rw [if_pos e47] at h
        refine go_tabIn (tgt := 1731) (off := 1691) hc dL_law_40 (by rw [e47]; decide) (by rw [e47]; decide) (by rw [e47]; decide +kernel) rfl ?_
        exact rL_law_b1731 hc ho hL hN hX0 hlx ih h
      rw [if_neg e47] at h
      by_cases e48 : ((xs l4.toNatClampNeg) &&& (63 : Int32)) = 48
      · rw [if_pos e48] at h
        refine go_tabIn (tgt := 1744) (off := 1704) hc dL_law_40 (by rw [e48]; decide) (by rw [e48]; decide) (by rw [e48]; decide +kernel) rfl ?_
        exact rL_law_b1744 hc ho hL hN hX0 hlx ih h
      rw [if_neg e48] at h
      by_cases e49 : ((xs l4.toNatClampNeg) &&& (63 : Int32)) = 49
      · rw [if_pos e49] at h
        refine go_tabIn (tgt := 1757) (off := 1717) hc dL_law_40 (by rw [e49]; decide) (by rw [e49]; decide) (by rw [e49]; decide +kernel) rfl ?_
        exact rL_law_b1757 hc ho hL hN hX0 hlx ih h
      rw [if_neg e49] at h
      by_cases e50 : ((xs l4.toNatClampNeg) &&& (63 : Int32)) = 50
      · rw [if_pos e50] at h
        refine go_tabIn (tgt := 1782) (off := 1742) hc dL_law_40 (by rw [e50]; decide) (by rw [e50]; decide) (by rw [e50]; decide +kernel) rfl ?_
        exact rL_law_b1782 hc ho hL hN hX0 hlx ih h
      rw [if_neg e50] at h
      by_cases e51 : ((xs l4.toNatClampNeg) &&& (63 : Int32)) = 51
      · rw [if_pos e51] at h
        refine go_tabIn (tgt := 1838) (off := 1798) hc dL_law_40 (by rw [e51]; decide) (by rw [e51]; decide) (by rw [e51]; decide +kernel) rfl ?_
        exact rL_law_b1838 hc ho hL hN hX0 hlx ih h
      rw [if_neg e51] at h
      by_cases e52 : ((xs l4.toNatClampNeg) &&& (63 : Int32)) = 52
      · rw [if_pos e52] at h
        refine go_tabIn (tgt := 1863) (off := 1823) hc dL_law_40 (by rw [e52]; decide) (by rw [e52]; decide) (by rw [e52]; decide +kernel) rfl ?_
        exact rL_law_b1863 hc ho hL hN hX0 hlx ih h
      rw [if_neg e52] at h
      refine go_tabOut (tgt := 1876) hc dL_law_40 ((otab 53 (by decide) (fun k hk => by rcases (show k = 0 ∨ k = 1 ∨ k = 2 ∨ k = 3 ∨ k = 4 ∨ k = 5 ∨ k = 6 ∨ k = 7 ∨ k = 8 ∨ k = 9 ∨ k = 10 ∨ k = 11 ∨ k = 12 ∨ k = 13 ∨ k = 14 ∨ k = 15 ∨ k = 16 ∨ k = 17 ∨ k = 18 ∨ k = 19 ∨ k = 20 ∨ k = 21 ∨ k = 22 ∨ k = 23 ∨ k = 24 ∨ k = 25 ∨ k = 26 ∨ k = 27 ∨ k = 28 ∨ k = 29 ∨ k = 30 ∨ k = 31 ∨ k = 32 ∨ k = 33 ∨ k = 34 ∨ k = 35 ∨ k = 36 ∨ k = 37 ∨ k = 38 ∨ k = 39 ∨ k = 40 ∨ k = 41 ∨ k = 42 ∨ k = 43 ∨ k = 44 ∨ k = 45 ∨ k = 46 ∨ k = 47 ∨ k = 48 ∨ k = 49 ∨ k = 50 ∨ k = 51 ∨ k = 52 by omega) with rfl | rfl | rfl | rfl | rfl | rfl | rfl | rfl | rfl | rfl | rfl | rfl | rfl | rfl | rfl | rfl | rfl | rfl | rfl | rfl | rfl | rfl | rfl | rfl | rfl | rfl | rfl | rfl | rfl | rfl | rfl | rfl | rfl | rfl | rfl | rfl | rfl | rfl | rfl | rfl | rfl | rfl | rfl | rfl | rfl | rfl | rfl | rfl | rfl | rfl | rfl | rfl | rfl <;> first | exact e0 | exact e1 | exact e2 | exact e3 | exact e4 | exact e5 | exact e6 | exact e7 | exact e8 | exact e9 | exact e10 | exact e11 | exact e12 | exact e13 | exact e14 | exact e15 | exact e16 | exact e17 | exact e18 | exact e19 | exact e20 | exact e21 | exact e22 | exact e23 | exact e24 | exact e25 | exact e26 | exact e27 | exact e28 | exact e29 | exact e30 | exact e31 | exact e32 | exact e33 | exact e34 | exact e35 | exact e36 | exact e37 | exact e38 | exact e39 | exact e40 | exact e41 | exact e42 | exact e43 | exact e44 | exact e45 | exact e46 | exact e47 | exact e48 | exact e49 | exact e50 | exact e51 | exact e52)).imp id (fun q => by omega)) rfl ?_
      refine go_iinc hc (lv1 := [.ref 100, .ref 0, .ref 81, .ref 94, .int (l4 + 6), .null, .null]) dL_law_1876 rfl ci_6 hL (by decide) (fun _ _ e => by cases e; rfl) rfl ?_
      refine go_goto (tgt := 23) hc dL_law_1879 rfl ?_
      exact ih (l4 + 6) _ h
