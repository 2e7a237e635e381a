/-! the reference's inverse -/
section INV
variable {q ku kv k1 k2 m nm mm a na aa t nt : Nat} {fs : List Value}
def ISt (q ku kv k1 k2 m nm mm a na aa t nt : Nat) (fs : List Value) (h : HP) (u v x y : Nat) : Prop :=
  h[q]? = some (pO 8 fs) ∧ (∃ M, h[m]? = some (pJ nm M) ∧ NM M mm) ∧ (∃ A, h[a]? = some (pJ na A) ∧ NM A aa) ∧ (∃ T, h[t]? = some (pJ nt T)) ∧
  (∃ U, h[ku]? = some (pJ 16 U) ∧ NM U u) ∧ (∃ V, h[kv]? = some (pJ 16 V) ∧ NM V v) ∧ (∃ X, h[k1]? = some (pJ 17 X) ∧ NM X x ∧ X 16 = 0) ∧ ∃ X, h[k2]? = some (pJ 17 X) ∧ NM X y ∧ X 16 = 0
def IDs (q ku kv k1 k2 m a t : Nat) : Prop := [q, ku, kv, k1, k2, m, t].Nodup ∧ a ∉ [ku, kv, k1, k2]
theorem i_qu (D : IDs q ku kv k1 k2 m a t) : q ≠ ku := by
  obtain ⟨d1, _⟩ := D
  simp only [List.nodup_cons, List.mem_cons, List.not_mem_nil, or_false, not_or, not_false_eq_true, List.nodup_nil, and_true] at d1
  obtain ⟨⟨n01, n02, n03, n04, n05, n06⟩, ⟨n12, n13, n14, n15, n16⟩, ⟨n23, n24, n25, n26⟩, ⟨n34, n35, n36⟩, ⟨n45, n46⟩, n56⟩ := d1
  first | assumption | exact Ne.symm (by assumption)
theorem i_qv (D : IDs q ku kv k1 k2 m a t) : q ≠ kv := by
  obtain ⟨d1, _⟩ := D
  simp only [List.nodup_cons, List.mem_cons, List.not_mem_nil, or_false, not_or, not_false_eq_true, List.nodup_nil, and_true] at d1
  obtain ⟨⟨n01, n02, n03, n04, n05, n06⟩, ⟨n12, n13, n14, n15, n16⟩, ⟨n23, n24, n25, n26⟩, ⟨n34, n35, n36⟩, ⟨n45, n46⟩, n56⟩ := d1
  first | assumption | exact Ne.symm (by assumption)
theorem i_qx (D : IDs q ku kv k1 k2 m a t) : q ≠ k1 := by
  obtain ⟨d1, _⟩ := D
  simp only [List.nodup_cons, List.mem_cons, List.not_mem_nil, or_false, not_or, not_false_eq_true, List.nodup_nil, and_true] at d1
  obtain ⟨⟨n01, n02, n03, n04, n05, n06⟩, ⟨n12, n13, n14, n15, n16⟩, ⟨n23, n24, n25, n26⟩, ⟨n34, n35, n36⟩, ⟨n45, n46⟩, n56⟩ := d1
  first | assumption | exact Ne.symm (by assumption)
theorem i_qy (D : IDs q ku kv k1 k2 m a t) : q ≠ k2 := by
  obtain ⟨d1, _⟩ := D
  simp only [List.nodup_cons, List.mem_cons, List.not_mem_nil, or_false, not_or, not_false_eq_true, List.nodup_nil, and_true] at d1
  obtain ⟨⟨n01, n02, n03, n04, n05, n06⟩, ⟨n12, n13, n14, n15, n16⟩, ⟨n23, n24, n25, n26⟩, ⟨n34, n35, n36⟩, ⟨n45, n46⟩, n56⟩ := d1
  first | assumption | exact Ne.symm (by assumption)
theorem i_qm (D : IDs q ku kv k1 k2 m a t) : q ≠ m := by
  obtain ⟨d1, _⟩ := D
  simp only [List.nodup_cons, List.mem_cons, List.not_mem_nil, or_false, not_or, not_false_eq_true, List.nodup_nil, and_true] at d1
  obtain ⟨⟨n01, n02, n03, n04, n05, n06⟩, ⟨n12, n13, n14, n15, n16⟩, ⟨n23, n24, n25, n26⟩, ⟨n34, n35, n36⟩, ⟨n45, n46⟩, n56⟩ := d1
  first | assumption | exact Ne.symm (by assumption)
theorem i_qt (D : IDs q ku kv k1 k2 m a t) : q ≠ t := by
  obtain ⟨d1, _⟩ := D
  simp only [List.nodup_cons, List.mem_cons, List.not_mem_nil, or_false, not_or, not_false_eq_true, List.nodup_nil, and_true] at d1
  obtain ⟨⟨n01, n02, n03, n04, n05, n06⟩, ⟨n12, n13, n14, n15, n16⟩, ⟨n23, n24, n25, n26⟩, ⟨n34, n35, n36⟩, ⟨n45, n46⟩, n56⟩ := d1
  first | assumption | exact Ne.symm (by assumption)
theorem i_uq (D : IDs q ku kv k1 k2 m a t) : ku ≠ q := by
  obtain ⟨d1, _⟩ := D
  simp only [List.nodup_cons, List.mem_cons, List.not_mem_nil, or_false, not_or, not_false_eq_true, List.nodup_nil, and_true] at d1
  obtain ⟨⟨n01, n02, n03, n04, n05, n06⟩, ⟨n12, n13, n14, n15, n16⟩, ⟨n23, n24, n25, n26⟩, ⟨n34, n35, n36⟩, ⟨n45, n46⟩, n56⟩ := d1
  first | assumption | exact Ne.symm (by assumption)
theorem i_uv (D : IDs q ku kv k1 k2 m a t) : ku ≠ kv := by
  obtain ⟨d1, _⟩ := D
  simp only [List.nodup_cons, List.mem_cons, List.not_mem_nil, or_false, not_or, not_false_eq_true, List.nodup_nil, and_true] at d1
  obtain ⟨⟨n01, n02, n03, n04, n05, n06⟩, ⟨n12, n13, n14, n15, n16⟩, ⟨n23, n24, n25, n26⟩, ⟨n34, n35, n36⟩, ⟨n45, n46⟩, n56⟩ := d1
  first | assumption | exact Ne.symm (by assumption)
theorem i_ux (D : IDs q ku kv k1 k2 m a t) : ku ≠ k1 := by
  obtain ⟨d1, _⟩ := D
  simp only [List.nodup_cons, List.mem_cons, List.not_mem_nil, or_false, not_or, not_false_eq_true, List.nodup_nil, and_true] at d1
  obtain ⟨⟨n01, n02, n03, n04, n05, n06⟩, ⟨n12, n13, n14, n15, n16⟩, ⟨n23, n24, n25, n26⟩, ⟨n34, n35, n36⟩, ⟨n45, n46⟩, n56⟩ := d1
  first | assumption | exact Ne.symm (by assumption)
theorem i_uy (D : IDs q ku kv k1 k2 m a t) : ku ≠ k2 := by
  obtain ⟨d1, _⟩ := D
  simp only [List.nodup_cons, List.mem_cons, List.not_mem_nil, or_false, not_or, not_false_eq_true, List.nodup_nil, and_true] at d1
  obtain ⟨⟨n01, n02, n03, n04, n05, n06⟩, ⟨n12, n13, n14, n15, n16⟩, ⟨n23, n24, n25, n26⟩, ⟨n34, n35, n36⟩, ⟨n45, n46⟩, n56⟩ := d1
  first | assumption | exact Ne.symm (by assumption)
theorem i_um (D : IDs q ku kv k1 k2 m a t) : ku ≠ m := by
  obtain ⟨d1, _⟩ := D
  simp only [List.nodup_cons, List.mem_cons, List.not_mem_nil, or_false, not_or, not_false_eq_true, List.nodup_nil, and_true] at d1
  obtain ⟨⟨n01, n02, n03, n04, n05, n06⟩, ⟨n12, n13, n14, n15, n16⟩, ⟨n23, n24, n25, n26⟩, ⟨n34, n35, n36⟩, ⟨n45, n46⟩, n56⟩ := d1
  first | assumption | exact Ne.symm (by assumption)
theorem i_ut (D : IDs q ku kv k1 k2 m a t) : ku ≠ t := by
  obtain ⟨d1, _⟩ := D
  simp only [List.nodup_cons, List.mem_cons, List.not_mem_nil, or_false, not_or, not_false_eq_true, List.nodup_nil, and_true] at d1
  obtain ⟨⟨n01, n02, n03, n04, n05, n06⟩, ⟨n12, n13, n14, n15, n16⟩, ⟨n23, n24, n25, n26⟩, ⟨n34, n35, n36⟩, ⟨n45, n46⟩, n56⟩ := d1
  first | assumption | exact Ne.symm (by assumption)
theorem i_vq (D : IDs q ku kv k1 k2 m a t) : kv ≠ q := by
  obtain ⟨d1, _⟩ := D
  simp only [List.nodup_cons, List.mem_cons, List.not_mem_nil, or_false, not_or, not_false_eq_true, List.nodup_nil, and_true] at d1
  obtain ⟨⟨n01, n02, n03, n04, n05, n06⟩, ⟨n12, n13, n14, n15, n16⟩, ⟨n23, n24, n25, n26⟩, ⟨n34, n35, n36⟩, ⟨n45, n46⟩, n56⟩ := d1
  first | assumption | exact Ne.symm (by assumption)
theorem i_vu (D : IDs q ku kv k1 k2 m a t) : kv ≠ ku := by
  obtain ⟨d1, _⟩ := D
  simp only [List.nodup_cons, List.mem_cons, List.not_mem_nil, or_false, not_or, not_false_eq_true, List.nodup_nil, and_true] at d1
  obtain ⟨⟨n01, n02, n03, n04, n05, n06⟩, ⟨n12, n13, n14, n15, n16⟩, ⟨n23, n24, n25, n26⟩, ⟨n34, n35, n36⟩, ⟨n45, n46⟩, n56⟩ := d1
  first | assumption | exact Ne.symm (by assumption)
theorem i_vx (D : IDs q ku kv k1 k2 m a t) : kv ≠ k1 := by
  obtain ⟨d1, _⟩ := D
  simp only [List.nodup_cons, List.mem_cons, List.not_mem_nil, or_false, not_or, not_false_eq_true, List.nodup_nil, and_true] at d1
  obtain ⟨⟨n01, n02, n03, n04, n05, n06⟩, ⟨n12, n13, n14, n15, n16⟩, ⟨n23, n24, n25, n26⟩, ⟨n34, n35, n36⟩, ⟨n45, n46⟩, n56⟩ := d1
  first | assumption | exact Ne.symm (by assumption)
theorem i_vy (D : IDs q ku kv k1 k2 m a t) : kv ≠ k2 := by
  obtain ⟨d1, _⟩ := D
  simp only [List.nodup_cons, List.mem_cons, List.not_mem_nil, or_false, not_or, not_false_eq_true, List.nodup_nil, and_true] at d1
  obtain ⟨⟨n01, n02, n03, n04, n05, n06⟩, ⟨n12, n13, n14, n15, n16⟩, ⟨n23, n24, n25, n26⟩, ⟨n34, n35, n36⟩, ⟨n45, n46⟩, n56⟩ := d1
  first | assumption | exact Ne.symm (by assumption)
theorem i_vm (D : IDs q ku kv k1 k2 m a t) : kv ≠ m := by
  obtain ⟨d1, _⟩ := D
  simp only [List.nodup_cons, List.mem_cons, List.not_mem_nil, or_false, not_or, not_false_eq_true, List.nodup_nil, and_true] at d1
  obtain ⟨⟨n01, n02, n03, n04, n05, n06⟩, ⟨n12, n13, n14, n15, n16⟩, ⟨n23, n24, n25, n26⟩, ⟨n34, n35, n36⟩, ⟨n45, n46⟩, n56⟩ := d1
  first | assumption | exact Ne.symm (by assumption)
theorem i_vt (D : IDs q ku kv k1 k2 m a t) : kv ≠ t := by
  obtain ⟨d1, _⟩ := D
  simp only [List.nodup_cons, List.mem_cons, List.not_mem_nil, or_false, not_or, not_false_eq_true, List.nodup_nil, and_true] at d1
  obtain ⟨⟨n01, n02, n03, n04, n05, n06⟩, ⟨n12, n13, n14, n15, n16⟩, ⟨n23, n24, n25, n26⟩, ⟨n34, n35, n36⟩, ⟨n45, n46⟩, n56⟩ := d1
  first | assumption | exact Ne.symm (by assumption)
theorem i_xq (D : IDs q ku kv k1 k2 m a t) : k1 ≠ q := by
  obtain ⟨d1, _⟩ := D
  simp only [List.nodup_cons, List.mem_cons, List.not_mem_nil, or_false, not_or, not_false_eq_true, List.nodup_nil, and_true] at d1
  obtain ⟨⟨n01, n02, n03, n04, n05, n06⟩, ⟨n12, n13, n14, n15, n16⟩, ⟨n23, n24, n25, n26⟩, ⟨n34, n35, n36⟩, ⟨n45, n46⟩, n56⟩ := d1
  first | assumption | exact Ne.symm (by assumption)
theorem i_xu (D : IDs q ku kv k1 k2 m a t) : k1 ≠ ku := by
  obtain ⟨d1, _⟩ := D
  simp only [List.nodup_cons, List.mem_cons, List.not_mem_nil, or_false, not_or, not_false_eq_true, List.nodup_nil, and_true] at d1
  obtain ⟨⟨n01, n02, n03, n04, n05, n06⟩, ⟨n12, n13, n14, n15, n16⟩, ⟨n23, n24, n25, n26⟩, ⟨n34, n35, n36⟩, ⟨n45, n46⟩, n56⟩ := d1
  first | assumption | exact Ne.symm (by assumption)
theorem i_xv (D : IDs q ku kv k1 k2 m a t) : k1 ≠ kv := by
  obtain ⟨d1, _⟩ := D
  simp only [List.nodup_cons, List.mem_cons, List.not_mem_nil, or_false, not_or, not_false_eq_true, List.nodup_nil, and_true] at d1
  obtain ⟨⟨n01, n02, n03, n04, n05, n06⟩, ⟨n12, n13, n14, n15, n16⟩, ⟨n23, n24, n25, n26⟩, ⟨n34, n35, n36⟩, ⟨n45, n46⟩, n56⟩ := d1
  first | assumption | exact Ne.symm (by assumption)
theorem i_xy (D : IDs q ku kv k1 k2 m a t) : k1 ≠ k2 := by
  obtain ⟨d1, _⟩ := D
  simp only [List.nodup_cons, List.mem_cons, List.not_mem_nil, or_false, not_or, not_false_eq_true, List.nodup_nil, and_true] at d1
  obtain ⟨⟨n01, n02, n03, n04, n05, n06⟩, ⟨n12, n13, n14, n15, n16⟩, ⟨n23, n24, n25, n26⟩, ⟨n34, n35, n36⟩, ⟨n45, n46⟩, n56⟩ := d1
  first | assumption | exact Ne.symm (by assumption)
theorem i_xm (D : IDs q ku kv k1 k2 m a t) : k1 ≠ m := by
  obtain ⟨d1, _⟩ := D
  simp only [List.nodup_cons, List.mem_cons, List.not_mem_nil, or_false, not_or, not_false_eq_true, List.nodup_nil, and_true] at d1
  obtain ⟨⟨n01, n02, n03, n04, n05, n06⟩, ⟨n12, n13, n14, n15, n16⟩, ⟨n23, n24, n25, n26⟩, ⟨n34, n35, n36⟩, ⟨n45, n46⟩, n56⟩ := d1
  first | assumption | exact Ne.symm (by assumption)
theorem i_xt (D : IDs q ku kv k1 k2 m a t) : k1 ≠ t := by
  obtain ⟨d1, _⟩ := D
  simp only [List.nodup_cons, List.mem_cons, List.not_mem_nil, or_false, not_or, not_false_eq_true, List.nodup_nil, and_true] at d1
  obtain ⟨⟨n01, n02, n03, n04, n05, n06⟩, ⟨n12, n13, n14, n15, n16⟩, ⟨n23, n24, n25, n26⟩, ⟨n34, n35, n36⟩, ⟨n45, n46⟩, n56⟩ := d1
  first | assumption | exact Ne.symm (by assumption)
theorem i_yq (D : IDs q ku kv k1 k2 m a t) : k2 ≠ q := by
  obtain ⟨d1, _⟩ := D
  simp only [List.nodup_cons, List.mem_cons, List.not_mem_nil, or_false, not_or, not_false_eq_true, List.nodup_nil, and_true] at d1
  obtain ⟨⟨n01, n02, n03, n04, n05, n06⟩, ⟨n12, n13, n14, n15, n16⟩, ⟨n23, n24, n25, n26⟩, ⟨n34, n35, n36⟩, ⟨n45, n46⟩, n56⟩ := d1
  first | assumption | exact Ne.symm (by assumption)
theorem i_yu (D : IDs q ku kv k1 k2 m a t) : k2 ≠ ku := by
  obtain ⟨d1, _⟩ := D
  simp only [List.nodup_cons, List.mem_cons, List.not_mem_nil, or_false, not_or, not_false_eq_true, List.nodup_nil, and_true] at d1
  obtain ⟨⟨n01, n02, n03, n04, n05, n06⟩, ⟨n12, n13, n14, n15, n16⟩, ⟨n23, n24, n25, n26⟩, ⟨n34, n35, n36⟩, ⟨n45, n46⟩, n56⟩ := d1
  first | assumption | exact Ne.symm (by assumption)
theorem i_yv (D : IDs q ku kv k1 k2 m a t) : k2 ≠ kv := by
  obtain ⟨d1, _⟩ := D
  simp only [List.nodup_cons, List.mem_cons, List.not_mem_nil, or_false, not_or, not_false_eq_true, List.nodup_nil, and_true] at d1
  obtain ⟨⟨n01, n02, n03, n04, n05, n06⟩, ⟨n12, n13, n14, n15, n16⟩, ⟨n23, n24, n25, n26⟩, ⟨n34, n35, n36⟩, ⟨n45, n46⟩, n56⟩ := d1
  first | assumption | exact Ne.symm (by assumption)
theorem i_yx (D : IDs q ku kv k1 k2 m a t) : k2 ≠ k1 := by
  obtain ⟨d1, _⟩ := D
  simp only [List.nodup_cons, List.mem_cons, List.not_mem_nil, or_false, not_or, not_false_eq_true, List.nodup_nil, and_true] at d1
  obtain ⟨⟨n01, n02, n03, n04, n05, n06⟩, ⟨n12, n13, n14, n15, n16⟩, ⟨n23, n24, n25, n26⟩, ⟨n34, n35, n36⟩, ⟨n45, n46⟩, n56⟩ := d1
  first | assumption | exact Ne.symm (by assumption)
theorem i_ym (D : IDs q ku kv k1 k2 m a t) : k2 ≠ m := by
  obtain ⟨d1, _⟩ := D
  simp only [List.nodup_cons, List.mem_cons, List.not_mem_nil, or_false, not_or, not_false_eq_true, List.nodup_nil, and_true] at d1
  obtain ⟨⟨n01, n02, n03, n04, n05, n06⟩, ⟨n12, n13, n14, n15, n16⟩, ⟨n23, n24, n25, n26⟩, ⟨n34, n35, n36⟩, ⟨n45, n46⟩, n56⟩ := d1
  first | assumption | exact Ne.symm (by assumption)
theorem i_yt (D : IDs q ku kv k1 k2 m a t) : k2 ≠ t := by
  obtain ⟨d1, _⟩ := D
  simp only [List.nodup_cons, List.mem_cons, List.not_mem_nil, or_false, not_or, not_false_eq_true, List.nodup_nil, and_true] at d1
  obtain ⟨⟨n01, n02, n03, n04, n05, n06⟩, ⟨n12, n13, n14, n15, n16⟩, ⟨n23, n24, n25, n26⟩, ⟨n34, n35, n36⟩, ⟨n45, n46⟩, n56⟩ := d1
  first | assumption | exact Ne.symm (by assumption)
theorem i_mq (D : IDs q ku kv k1 k2 m a t) : m ≠ q := by
  obtain ⟨d1, _⟩ := D
  simp only [List.nodup_cons, List.mem_cons, List.not_mem_nil, or_false, not_or, not_false_eq_true, List.nodup_nil, and_true] at d1
  obtain ⟨⟨n01, n02, n03, n04, n05, n06⟩, ⟨n12, n13, n14, n15, n16⟩, ⟨n23, n24, n25, n26⟩, ⟨n34, n35, n36⟩, ⟨n45, n46⟩, n56⟩ := d1
  first | assumption | exact Ne.symm (by assumption)
theorem i_mu (D : IDs q ku kv k1 k2 m a t) : m ≠ ku := by
  obtain ⟨d1, _⟩ := D
  simp only [List.nodup_cons, List.mem_cons, List.not_mem_nil, or_false, not_or, not_false_eq_true, List.nodup_nil, and_true] at d1
  obtain ⟨⟨n01, n02, n03, n04, n05, n06⟩, ⟨n12, n13, n14, n15, n16⟩, ⟨n23, n24, n25, n26⟩, ⟨n34, n35, n36⟩, ⟨n45, n46⟩, n56⟩ := d1
  first | assumption | exact Ne.symm (by assumption)
theorem i_mv (D : IDs q ku kv k1 k2 m a t) : m ≠ kv := by
  obtain ⟨d1, _⟩ := D
  simp only [List.nodup_cons, List.mem_cons, List.not_mem_nil, or_false, not_or, not_false_eq_true, List.nodup_nil, and_true] at d1
  obtain ⟨⟨n01, n02, n03, n04, n05, n06⟩, ⟨n12, n13, n14, n15, n16⟩, ⟨n23, n24, n25, n26⟩, ⟨n34, n35, n36⟩, ⟨n45, n46⟩, n56⟩ := d1
  first | assumption | exact Ne.symm (by assumption)
theorem i_mx (D : IDs q ku kv k1 k2 m a t) : m ≠ k1 := by
  obtain ⟨d1, _⟩ := D
  simp only [List.nodup_cons, List.mem_cons, List.not_mem_nil, or_false, not_or, not_false_eq_true, List.nodup_nil, and_true] at d1
  obtain ⟨⟨n01, n02, n03, n04, n05, n06⟩, ⟨n12, n13, n14, n15, n16⟩, ⟨n23, n24, n25, n26⟩, ⟨n34, n35, n36⟩, ⟨n45, n46⟩, n56⟩ := d1
  first | assumption | exact Ne.symm (by assumption)
theorem i_my (D : IDs q ku kv k1 k2 m a t) : m ≠ k2 := by
  obtain ⟨d1, _⟩ := D
  simp only [List.nodup_cons, List.mem_cons, List.not_mem_nil, or_false, not_or, not_false_eq_true, List.nodup_nil, and_true] at d1
  obtain ⟨⟨n01, n02, n03, n04, n05, n06⟩, ⟨n12, n13, n14, n15, n16⟩, ⟨n23, n24, n25, n26⟩, ⟨n34, n35, n36⟩, ⟨n45, n46⟩, n56⟩ := d1
  first | assumption | exact Ne.symm (by assumption)
theorem i_mt (D : IDs q ku kv k1 k2 m a t) : m ≠ t := by
  obtain ⟨d1, _⟩ := D
  simp only [List.nodup_cons, List.mem_cons, List.not_mem_nil, or_false, not_or, not_false_eq_true, List.nodup_nil, and_true] at d1
  obtain ⟨⟨n01, n02, n03, n04, n05, n06⟩, ⟨n12, n13, n14, n15, n16⟩, ⟨n23, n24, n25, n26⟩, ⟨n34, n35, n36⟩, ⟨n45, n46⟩, n56⟩ := d1
  first | assumption | exact Ne.symm (by assumption)
theorem i_tq (D : IDs q ku kv k1 k2 m a t) : t ≠ q := by
  obtain ⟨d1, _⟩ := D
  simp only [List.nodup_cons, List.mem_cons, List.not_mem_nil, or_false, not_or, not_false_eq_true, List.nodup_nil, and_true] at d1
  obtain ⟨⟨n01, n02, n03, n04, n05, n06⟩, ⟨n12, n13, n14, n15, n16⟩, ⟨n23, n24, n25, n26⟩, ⟨n34, n35, n36⟩, ⟨n45, n46⟩, n56⟩ := d1
  first | assumption | exact Ne.symm (by assumption)
theorem i_tu (D : IDs q ku kv k1 k2 m a t) : t ≠ ku := by
  obtain ⟨d1, _⟩ := D
  simp only [List.nodup_cons, List.mem_cons, List.not_mem_nil, or_false, not_or, not_false_eq_true, List.nodup_nil, and_true] at d1
  obtain ⟨⟨n01, n02, n03, n04, n05, n06⟩, ⟨n12, n13, n14, n15, n16⟩, ⟨n23, n24, n25, n26⟩, ⟨n34, n35, n36⟩, ⟨n45, n46⟩, n56⟩ := d1
  first | assumption | exact Ne.symm (by assumption)
theorem i_tv (D : IDs q ku kv k1 k2 m a t) : t ≠ kv := by
  obtain ⟨d1, _⟩ := D
  simp only [List.nodup_cons, List.mem_cons, List.not_mem_nil, or_false, not_or, not_false_eq_true, List.nodup_nil, and_true] at d1
  obtain ⟨⟨n01, n02, n03, n04, n05, n06⟩, ⟨n12, n13, n14, n15, n16⟩, ⟨n23, n24, n25, n26⟩, ⟨n34, n35, n36⟩, ⟨n45, n46⟩, n56⟩ := d1
  first | assumption | exact Ne.symm (by assumption)
theorem i_tx (D : IDs q ku kv k1 k2 m a t) : t ≠ k1 := by
  obtain ⟨d1, _⟩ := D
  simp only [List.nodup_cons, List.mem_cons, List.not_mem_nil, or_false, not_or, not_false_eq_true, List.nodup_nil, and_true] at d1
  obtain ⟨⟨n01, n02, n03, n04, n05, n06⟩, ⟨n12, n13, n14, n15, n16⟩, ⟨n23, n24, n25, n26⟩, ⟨n34, n35, n36⟩, ⟨n45, n46⟩, n56⟩ := d1
  first | assumption | exact Ne.symm (by assumption)
theorem i_ty (D : IDs q ku kv k1 k2 m a t) : t ≠ k2 := by
  obtain ⟨d1, _⟩ := D
  simp only [List.nodup_cons, List.mem_cons, List.not_mem_nil, or_false, not_or, not_false_eq_true, List.nodup_nil, and_true] at d1
  obtain ⟨⟨n01, n02, n03, n04, n05, n06⟩, ⟨n12, n13, n14, n15, n16⟩, ⟨n23, n24, n25, n26⟩, ⟨n34, n35, n36⟩, ⟨n45, n46⟩, n56⟩ := d1
  first | assumption | exact Ne.symm (by assumption)
theorem i_tm (D : IDs q ku kv k1 k2 m a t) : t ≠ m := by
  obtain ⟨d1, _⟩ := D
  simp only [List.nodup_cons, List.mem_cons, List.not_mem_nil, or_false, not_or, not_false_eq_true, List.nodup_nil, and_true] at d1
  obtain ⟨⟨n01, n02, n03, n04, n05, n06⟩, ⟨n12, n13, n14, n15, n16⟩, ⟨n23, n24, n25, n26⟩, ⟨n34, n35, n36⟩, ⟨n45, n46⟩, n56⟩ := d1
  first | assumption | exact Ne.symm (by assumption)
theorem i_au (D : IDs q ku kv k1 k2 m a t) : a ≠ ku := by
  obtain ⟨_, d2⟩ := D
  simp only [List.mem_cons, List.not_mem_nil, or_false, not_or] at d2
  obtain ⟨m1, m2, m3, m4⟩ := d2
  assumption
theorem i_ua (D : IDs q ku kv k1 k2 m a t) : ku ≠ a := Ne.symm (i_au D)
theorem i_av (D : IDs q ku kv k1 k2 m a t) : a ≠ kv := by
  obtain ⟨_, d2⟩ := D
  simp only [List.mem_cons, List.not_mem_nil, or_false, not_or] at d2
  obtain ⟨m1, m2, m3, m4⟩ := d2
  assumption
theorem i_va (D : IDs q ku kv k1 k2 m a t) : kv ≠ a := Ne.symm (i_av D)
theorem i_ax (D : IDs q ku kv k1 k2 m a t) : a ≠ k1 := by
  obtain ⟨_, d2⟩ := D
  simp only [List.mem_cons, List.not_mem_nil, or_false, not_or] at d2
  obtain ⟨m1, m2, m3, m4⟩ := d2
  assumption
theorem i_xa (D : IDs q ku kv k1 k2 m a t) : k1 ≠ a := Ne.symm (i_ax D)
theorem i_ay (D : IDs q ku kv k1 k2 m a t) : a ≠ k2 := by
  obtain ⟨_, d2⟩ := D
  simp only [List.mem_cons, List.not_mem_nil, or_false, not_or] at d2
  obtain ⟨m1, m2, m3, m4⟩ := d2
  assumption
theorem i_ya (D : IDs q ku kv k1 k2 m a t) : k2 ≠ a := Ne.symm (i_ay D)
theorem is_u {h : HP} {u v x y u' : Nat} (D : IDs q ku kv k1 k2 m a t) (S : ISt q ku kv k1 k2 m nm mm a na aa t nt fs h u v x y) {U : Nat → Int64} (hU : NM U u') : ISt q ku kv k1 k2 m nm mm a na aa t nt fs (h.set ku (pJ 16 U)) u' v x y := by
  obtain ⟨s1, ⟨M, s2, s2'⟩, ⟨A, s3, s3'⟩, ⟨T, s4⟩, ⟨U0, s5, s5'⟩, ⟨V, s6, s6'⟩, ⟨X, s7, s7'⟩, ⟨Z, s8, s8'⟩⟩ := S
  obtain ⟨d1, d2⟩ := D
  simp only [List.nodup_cons, List.mem_cons, List.not_mem_nil, or_false, not_or, not_false_eq_true, List.nodup_nil, and_true] at d1 d2
  obtain ⟨⟨n01, n02, n03, n04, n05, n06⟩, ⟨n12, n13, n14, n15, n16⟩, ⟨n23, n24, n25, n26⟩, ⟨n34, n35, n36⟩, ⟨n45, n46⟩, n56⟩ := d1
  obtain ⟨m1, m2, m3, m4⟩ := d2
  refine ⟨hn_ (by first | assumption | exact Ne.symm (by assumption)) s1, ⟨M, hn_ (by first | assumption | exact Ne.symm (by assumption)) s2, s2'⟩, ⟨A, hn_ (by first | assumption | exact Ne.symm (by assumption)) s3, s3'⟩, ⟨T, hn_ (by first | assumption | exact Ne.symm (by assumption)) s4⟩, ⟨U, hs_ s5, hU⟩, ⟨V, hn_ (by first | assumption | exact Ne.symm (by assumption)) s6, s6'⟩, ⟨X, hn_ (by first | assumption | exact Ne.symm (by assumption)) s7, s7'⟩, ⟨Z, hn_ (by first | assumption | exact Ne.symm (by assumption)) s8, s8'⟩⟩
theorem is_v {h : HP} {u v x y u' : Nat} (D : IDs q ku kv k1 k2 m a t) (S : ISt q ku kv k1 k2 m nm mm a na aa t nt fs h u v x y) {U : Nat → Int64} (hU : NM U u') : ISt q ku kv k1 k2 m nm mm a na aa t nt fs (h.set kv (pJ 16 U)) u u' x y := by
  obtain ⟨s1, ⟨M, s2, s2'⟩, ⟨A, s3, s3'⟩, ⟨T, s4⟩, ⟨U0, s5, s5'⟩, ⟨V, s6, s6'⟩, ⟨X, s7, s7'⟩, ⟨Z, s8, s8'⟩⟩ := S
  obtain ⟨d1, d2⟩ := D
  simp only [List.nodup_cons, List.mem_cons, List.not_mem_nil, or_false, not_or, not_false_eq_true, List.nodup_nil, and_true] at d1 d2
  obtain ⟨⟨n01, n02, n03, n04, n05, n06⟩, ⟨n12, n13, n14, n15, n16⟩, ⟨n23, n24, n25, n26⟩, ⟨n34, n35, n36⟩, ⟨n45, n46⟩, n56⟩ := d1
  obtain ⟨m1, m2, m3, m4⟩ := d2
  refine ⟨hn_ (by first | assumption | exact Ne.symm (by assumption)) s1, ⟨M, hn_ (by first | assumption | exact Ne.symm (by assumption)) s2, s2'⟩, ⟨A, hn_ (by first | assumption | exact Ne.symm (by assumption)) s3, s3'⟩, ⟨T, hn_ (by first | assumption | exact Ne.symm (by assumption)) s4⟩, ⟨U0, hn_ (by first | assumption | exact Ne.symm (by assumption)) s5, s5'⟩, ⟨U, hs_ s6, hU⟩, ⟨X, hn_ (by first | assumption | exact Ne.symm (by assumption)) s7, s7'⟩, ⟨Z, hn_ (by first | assumption | exact Ne.symm (by assumption)) s8, s8'⟩⟩
theorem is_x {h : HP} {u v x y u' : Nat} (D : IDs q ku kv k1 k2 m a t) (S : ISt q ku kv k1 k2 m nm mm a na aa t nt fs h u v x y) {U : Nat → Int64} (hU : NM U u') (h0 : U 16 = 0) : ISt q ku kv k1 k2 m nm mm a na aa t nt fs (h.set k1 (pJ 17 U)) u v u' y := by
  obtain ⟨s1, ⟨M, s2, s2'⟩, ⟨A, s3, s3'⟩, ⟨T, s4⟩, ⟨U0, s5, s5'⟩, ⟨V, s6, s6'⟩, ⟨X, s7, s7'⟩, ⟨Z, s8, s8'⟩⟩ := S
  obtain ⟨d1, d2⟩ := D
  simp only [List.nodup_cons, List.mem_cons, List.not_mem_nil, or_false, not_or, not_false_eq_true, List.nodup_nil, and_true] at d1 d2
  obtain ⟨⟨n01, n02, n03, n04, n05, n06⟩, ⟨n12, n13, n14, n15, n16⟩, ⟨n23, n24, n25, n26⟩, ⟨n34, n35, n36⟩, ⟨n45, n46⟩, n56⟩ := d1
  obtain ⟨m1, m2, m3, m4⟩ := d2
  refine ⟨hn_ (by first | assumption | exact Ne.symm (by assumption)) s1, ⟨M, hn_ (by first | assumption | exact Ne.symm (by assumption)) s2, s2'⟩, ⟨A, hn_ (by first | assumption | exact Ne.symm (by assumption)) s3, s3'⟩, ⟨T, hn_ (by first | assumption | exact Ne.symm (by assumption)) s4⟩, ⟨U0, hn_ (by first | assumption | exact Ne.symm (by assumption)) s5, s5'⟩, ⟨V, hn_ (by first | assumption | exact Ne.symm (by assumption)) s6, s6'⟩, ⟨U, hs_ s7, hU, h0⟩, ⟨Z, hn_ (by first | assumption | exact Ne.symm (by assumption)) s8, s8'⟩⟩
theorem is_y {h : HP} {u v x y u' : Nat} (D : IDs q ku kv k1 k2 m a t) (S : ISt q ku kv k1 k2 m nm mm a na aa t nt fs h u v x y) {U : Nat → Int64} (hU : NM U u') (h0 : U 16 = 0) : ISt q ku kv k1 k2 m nm mm a na aa t nt fs (h.set k2 (pJ 17 U)) u v x u' := by
  obtain ⟨s1, ⟨M, s2, s2'⟩, ⟨A, s3, s3'⟩, ⟨T, s4⟩, ⟨U0, s5, s5'⟩, ⟨V, s6, s6'⟩, ⟨X, s7, s7'⟩, ⟨Z, s8, s8'⟩⟩ := S
  obtain ⟨d1, d2⟩ := D
  simp only [List.nodup_cons, List.mem_cons, List.not_mem_nil, or_false, not_or, not_false_eq_true, List.nodup_nil, and_true] at d1 d2
  obtain ⟨⟨n01, n02, n03, n04, n05, n06⟩, ⟨n12, n13, n14, n15, n16⟩, ⟨n23, n24, n25, n26⟩, ⟨n34, n35, n36⟩, ⟨n45, n46⟩, n56⟩ := d1
  obtain ⟨m1, m2, m3, m4⟩ := d2
  refine ⟨hn_ (by first | assumption | exact Ne.symm (by assumption)) s1, ⟨M, hn_ (by first | assumption | exact Ne.symm (by assumption)) s2, s2'⟩, ⟨A, hn_ (by first | assumption | exact Ne.symm (by assumption)) s3, s3'⟩, ⟨T, hn_ (by first | assumption | exact Ne.symm (by assumption)) s4⟩, ⟨U0, hn_ (by first | assumption | exact Ne.symm (by assumption)) s5, s5'⟩, ⟨V, hn_ (by first | assumption | exact Ne.symm (by assumption)) s6, s6'⟩, ⟨X, hn_ (by first | assumption | exact Ne.symm (by assumption)) s7, s7'⟩, ⟨U, hs_ s8, hU, h0⟩⟩
/-- what comes out -/
def IOut (ku kv k1 k2 aa mm t nt : Nat) (h h' : HP) : Prop := KP [ku, kv, k1, k2, t] h h' ∧ (∃ U u, h'[ku]? = some (pJ 16 U) ∧ NM U u) ∧ (∃ U u, h'[kv]? = some (pJ 16 U) ∧ NM U u) ∧ (∃ X x, h'[k1]? = some (pJ 17 X) ∧ NM X x) ∧ (∃ X x, h'[k2]? = some (pJ 17 X) ∧ NM X x) ∧ ∃ F r, h'[t]? = some (pJ nt F) ∧ NM F r ∧ r < mm ∧ aa * r % mm = 1
theorem dv_11 {a m x : Nat} (hm : 1 < m) (h : (m : Int) ∣ (a : Int) * x - (1 : Nat)) : a * x % m = 1 := by
  have := dv_eq (v := m) (w := 1) (W := (a : Int) * x) (by rw [← Int.natCast_mul]; exact Int.natCast_nonneg _) h
  rw [Nat.mod_eq_of_lt hm, ← Int.natCast_mul] at this
  exact this.symm
theorem iv_end {K : HP → Nat → Nat → Nat → Nat → Int32 → Option (HP)} {h : HP} {n u v x y : Nat} (hf3 : fs[41]? = some (.ref k1)) (hf4 : fs[42]? = some (.ref k2)) (hf1 : fs[39]? = some (.ref ku)) (D : IDs q ku kv k1 k2 m a t) (hna : 16 ≤ na) (hnt : 16 ≤ nt) (ha0 : aa ≠ 0) (hm1 : 1 < mm) (S : ISt q ku kv k1 k2 m nm mm a na aa t nt fs h u v x y) (I : IVa aa mm n u v x y) (h1 : u = 1 ∨ v = 1) : ∃ h', B_Rm_inverse_233 K h q t a = some h' ∧ IOut ku kv k1 k2 aa mm t nt h h' := by
  obtain ⟨s1, ⟨M, s2, s2'⟩, ⟨A, s3, s3'⟩, ⟨T, s4⟩, ⟨U0, s5, s5'⟩, ⟨V, s6, s6'⟩, ⟨X, s7, s7'⟩, ⟨Z, s8, s8'⟩⟩ := S
  obtain ⟨d1, d2⟩ := D
  simp only [List.nodup_cons, List.mem_cons, List.not_mem_nil, or_false, not_or, not_false_eq_true, List.nodup_nil, and_true] at d1 d2
  obtain ⟨⟨n01, n02, n03, n04, n05, n06⟩, ⟨n12, n13, n14, n15, n16⟩, ⟨n23, n24, n25, n26⟩, ⟨n34, n35, n36⟩, ⟨n45, n46⟩, n56⟩ := d1
  obtain ⟨m1, m2, m3, m4⟩ := d2
  obtain ⟨⟨i1, i2, i3, i4, i5⟩, i6, i7, _⟩ := I
  unfold B_Rm_inverse_233
  rw [bs2 (e_zero hna s3 s3'), decide_eq_false ha0, if_pos (show bi false = 0 by decide), bs_ (gR_at s1 hf1), bs2 (e_one (Nat.le_refl 16) s5 s5')]
  by_cases z : u = 1
  · rw [decide_eq_true z, if_neg (show ¬ bi true = 0 by decide), bs_ (gR_at s1 hf3)]
    obtain ⟨F', g1, g2, g3⟩ := e_copy (show t ≠ k1 from (by first | assumption | exact Ne.symm (by assumption))) hnt (by decide) s4 s7 s7'.1
    refine ⟨_, by rw [bs_ g1]; rfl, KP.st (by simp), ⟨U0, u, hn_ (by first | assumption | exact Ne.symm (by assumption)) s5, s5'⟩, ⟨V, v, hn_ (by first | assumption | exact Ne.symm (by assumption)) s6, s6'⟩, ⟨X, x, hn_ (by first | assumption | exact Ne.symm (by assumption)) s7, s7'.1⟩, ⟨Z, y, hn_ (by first | assumption | exact Ne.symm (by assumption)) s8, s8'.1⟩, F', x, hs_ s4, g2, i3, dv_11 hm1 (by rw [z] at i6; exact i6)⟩
  · rw [decide_eq_false z, if_pos (show bi false = 0 by decide), bs_ (gR_at s1 hf4)]
    obtain ⟨F', g1, g2, g3⟩ := e_copy (show t ≠ k2 from (by first | assumption | exact Ne.symm (by assumption))) hnt (by decide) s4 s8 s8'.1
    have hv1 : v = 1 := h1.resolve_left z
    refine ⟨_, by rw [bs_ g1]; rfl, KP.st (by simp), ⟨U0, u, hn_ (by first | assumption | exact Ne.symm (by assumption)) s5, s5'⟩, ⟨V, v, hn_ (by first | assumption | exact Ne.symm (by assumption)) s6, s6'⟩, ⟨X, x, hn_ (by first | assumption | exact Ne.symm (by assumption)) s7, s7'.1⟩, ⟨Z, y, hn_ (by first | assumption | exact Ne.symm (by assumption)) s8, s8'.1⟩, F', y, hs_ s4, g2, i4, dv_11 hm1 (by rw [hv1] at i7; exact i7)⟩
theorem io_k {h h1 h' : HP} (o : IOut ku kv k1 k2 aa mm t nt h1 h') (k : KP [ku, kv, k1, k2, t] h h1) : IOut ku kv k1 k2 aa mm t nt h h' := ⟨k.tr o.1, o.2⟩
theorem iv_loop (hf1 : fs[39]? = some (.ref ku)) (hf2 : fs[40]? = some (.ref kv)) (hf3 : fs[41]? = some (.ref k1)) (hf4 : fs[42]? = some (.ref k2)) (D : IDs q ku kv k1 k2 m a t) (hna : 16 ≤ na) (hnt : 16 ≤ nt) (hnm : 16 ≤ nm) (ha0 : aa ≠ 0) (hm1 : 1 < mm) (hodd : mm % 2 = 1) : ∀ (r n f : Nat) (h : HP) (u v x y : Nat), r + n = 1100 → r < f → ISt q ku kv k1 k2 m nm mm a na aa t nt fs h u v x y → IVa aa mm n u v x y → ∃ h', L_Rm_inverse_51 f h q t a m (nI n) = some h' ∧ IOut ku kv k1 k2 aa mm t nt h h' := by
  intro r
  induction r with
  | zero =>
    intro n f h u v x y hr _ _ I
    have := iva_n I
    omega
  | succ r ih =>
    intro n f h u v x y hr hfu S I
    cases f with
    | zero => omega
    | succ f =>
      have S0 := S
      have D0 := D
      obtain ⟨s1, ⟨M, s2, s2'⟩, ⟨A, s3, s3'⟩, ⟨T, s4⟩, ⟨U0, s5, s5'⟩, ⟨V, s6, s6'⟩, ⟨X, s7, s7'⟩, ⟨Z, s8, s8'⟩⟩ := S
      have I0 := I
      obtain ⟨⟨i1, i2, i3, i4, i5⟩, i6, i7, _⟩ := I
      show ∃ h', B_Rm_inverse_51 (L_Rm_inverse_51 f) h q t a m (nI n) = some h' ∧ _
      unfold B_Rm_inverse_51
      rw [if_neg (show ¬ (1100 : Int32) ≤ nI n from nI_ge (b := 1100) (by omega) (by omega)), bs2 (e_zero hna s3 s3'), decide_eq_false ha0, if_pos (show bi false = 0 by decide), bs_ (gR_at s1 hf1), bs2 (e_one (Nat.le_refl 16) s5 s5')]
      by_cases z1 : u = 1
      · rw [decide_eq_true z1, if_neg (show ¬ bi true = 0 by decide)]
        exact iv_end hf3 hf4 hf1 D0 hna hnt ha0 hm1 S0 I0 (Or.inl z1)
      rw [decide_eq_false z1, if_pos (show bi false = 0 by decide), bs_ (gR_at s1 hf2), bs2 (e_one (Nat.le_refl 16) s6 s6')]
      by_cases z2 : v = 1
      · rw [decide_eq_true z2, if_neg (show ¬ bi true = 0 by decide)]
        exact iv_end hf3 hf4 hf1 D0 hna hnt ha0 hm1 S0 I0 (Or.inr z2)
      rw [decide_eq_false z2, if_pos (show bi false = 0 by decide), bs_ (gR_at s1 hf1)]
      obtain ⟨e, e1, e2, e3⟩ := nm_par s5'
      obtain ⟨e', e1', e2', e3'⟩ := nm_par s6'
      have pz : ∀ e, e < 2 ^ 16 → ((lg_cmp (lN e &&& 1) 0 = 0) ↔ e % 2 = 0) := fun e he => by
        rw [wb_a1 (by omega), lg_cmp_eq]
        exact lN_inj16 (b := 0) (by omega) (by decide)
      rw [show ldJ h ku 0 = some (lN e) from (sJ_in 0 s5 rfl (by omega) (by decide)).trans (by rw [e2])]
      have nx : ∀ h1, B_Rm_inverse_227 (L_Rm_inverse_51 f) h1 q t a m (nI n) = L_Rm_inverse_51 f h1 q t a m (nI (n + 1)) := by
        intro h1
        show L_Rm_inverse_51 f h1 q t a m (nI n + Int32.ofInt 1) = _
        rw [nI_ofInt1]
      by_cases z3 : u % 2 = 0
      · show ∃ h', (if lg_cmp (lN e &&& 1) 0 = 0 then _ else _) = some h' ∧ _
        rw [if_pos ((pz e e1).mpr (by omega)), bs_ (gR_at s1 hf1)]
        obtain ⟨U', g1, g2, _⟩ := e_halve (Nat.le_refl 16) s5 s5'
        have S1 := is_u D0 S0 g2
        rw [bs_ g1, bs_ (gR_at S1.1 hf3)]
        obtain ⟨X', g3, g4, g5⟩ := e_half (hn_ (d := pJ 16 U') (i_ux D0) s7) (hn_ (i_um D0) s2) hnm (i_xm D0) s7'.1 s7'.2 s2'
        rw [bs_ g3, nx]
        obtain ⟨h', k1', k2'⟩ := ih (n + 1) f _ _ _ _ _ (by omega) (by omega) (is_x D0 S1 g4 g5) (iva_u hodd I0 z3)
        exact ⟨h', k1', io_k k2' ((KP.st (by simp)).tr (KP.st (by simp)))⟩
      · show ∃ h', (if lg_cmp (lN e &&& 1) 0 = 0 then _ else _) = some h' ∧ _
        rw [if_neg (fun c => by have := (pz e e1).mp c; omega), bs_ (gR_at s1 hf2), show ldJ h kv 0 = some (lN e') from (sJ_in 0 s6 rfl (by omega) (by decide)).trans (by rw [e2'])]
        by_cases z4 : v % 2 = 0
        · show ∃ h', (if lg_cmp (lN e' &&& 1) 0 = 0 then _ else _) = some h' ∧ _
          rw [if_pos ((pz e' e1').mpr (by omega)), bs_ (gR_at s1 hf2)]
          obtain ⟨U', g1, g2, _⟩ := e_halve (Nat.le_refl 16) s6 s6'
          have S1 := is_v D0 S0 g2
          rw [bs_ g1, bs_ (gR_at S1.1 hf4)]
          obtain ⟨X', g3, g4, g5⟩ := e_half (hn_ (d := pJ 16 U') (i_vy D0) s8) (hn_ (i_vm D0) s2) hnm (i_ym D0) s8'.1 s8'.2 s2'
          rw [bs_ g3, nx]
          obtain ⟨h', k1', k2'⟩ := ih (n + 1) f _ _ _ _ _ (by omega) (by omega) (is_y D0 S1 g4 g5) (iva_sw (iva_u hodd (iva_sw I0) z4))
          exact ⟨h', k1', io_k k2' ((KP.st (by simp)).tr (KP.st (by simp)))⟩
        · show ∃ h', (if lg_cmp (lN e' &&& 1) 0 = 0 then _ else _) = some h' ∧ _
          rw [if_neg (fun c => by have := (pz e' e1').mp c; omega), bs_ (gR_at s1 hf1), bs_ (gR_at s1 hf2), bs2 (e_below (Nat.le_refl 16) (Nat.le_refl 16) s5 s6 s5' s6')]
          by_cases z5 : u < v
          · rw [decide_eq_true z5, if_neg (show ¬ bi true = 0 by decide), bs_ (gR_at s1 hf2), bs_ (gR_at s1 hf2), bs_ (gR_at s1 hf1)]
            obtain ⟨U', g1, g2, _⟩ := e_less (i_vu D0) (Nat.le_refl 16) (Nat.le_refl 16) s6 s5 s6' s5' (by omega)
            have S1 := is_v D0 S0 g2
            rw [bs_ g1, bs_ (gR_at S1.1 hf4), bs_ (gR_at S1.1 hf4), bs_ (gR_at S1.1 hf3)]
            obtain ⟨X', g3, g4, g5⟩ := e_minus (by decide) (by decide) (by decide) hnm (i_ym D0) (hn_ (d := pJ 16 U') (i_vy D0) s8) (hn_ (i_vy D0) s8) (hn_ (i_vx D0) s7) (hn_ (i_vm D0) s2) s8'.1 s7'.1 s2' i4 i3
            rw [bs_ g3, nx]
            obtain ⟨h', k1', k2'⟩ := ih (n + 1) f _ _ _ _ _ (by omega) (by omega) (is_y D0 S1 g4 (by rw [g5 16 (Nat.le_refl _)]; exact s8'.2)) (iva_sw (iva_s (iva_sw I0) (by omega) (by omega) (by omega) z2))
            exact ⟨h', k1', io_k k2' ((KP.st (by simp)).tr (KP.st (by simp)))⟩
          · rw [decide_eq_false z5, if_pos (show bi false = 0 by decide), bs_ (gR_at s1 hf1), bs_ (gR_at s1 hf1), bs_ (gR_at s1 hf2)]
            obtain ⟨U', g1, g2, _⟩ := e_less (i_uv D0) (Nat.le_refl 16) (Nat.le_refl 16) s5 s6 s5' s6' (by omega)
            have S1 := is_u D0 S0 g2
            rw [bs_ g1, bs_ (gR_at S1.1 hf3), bs_ (gR_at S1.1 hf3), bs_ (gR_at S1.1 hf4)]
            obtain ⟨X', g3, g4, g5⟩ := e_minus (by decide) (by decide) (by decide) hnm (i_xm D0) (hn_ (d := pJ 16 U') (i_ux D0) s7) (hn_ (i_ux D0) s7) (hn_ (i_uy D0) s8) (hn_ (i_um D0) s2) s7'.1 s8'.1 s2' i3 i4
            rw [bs_ g3, nx]
            obtain ⟨h', k1', k2'⟩ := ih (n + 1) f _ _ _ _ _ (by omega) (by omega) (is_x D0 S1 g4 (by rw [g5 16 (Nat.le_refl _)]; exact s7'.2)) (iva_s I0 (by omega) (by omega) z5 z1)
            exact ⟨h', k1', io_k k2' ((KP.st (by simp)).tr (KP.st (by simp)))⟩
theorem e_inverse (hf1 : fs[39]? = some (.ref ku)) (hf2 : fs[40]? = some (.ref kv)) (hf3 : fs[41]? = some (.ref k1)) (hf4 : fs[42]? = some (.ref k2)) (D : IDs q ku kv k1 k2 m a t) (hna : 16 ≤ na) (hnt : 16 ≤ nt) (hnm : 16 ≤ nm) (ha0 : aa ≠ 0) (ham : aa < mm) (hp : Pr mm) (hodd : mm % 2 = 1) {h : HP} {U V X Y A M T : Nat → Int64} (hq : h[q]? = some (pO 8 fs)) (hu : h[ku]? = some (pJ 16 U)) (hv : h[kv]? = some (pJ 16 V)) (h1 : h[k1]? = some (pJ 17 X)) (h2 : h[k2]? = some (pJ 17 Y)) (ha : h[a]? = some (pJ na A)) (hA : NM A aa) (hm : h[m]? = some (pJ nm M)) (hM : NM M mm) (ht : h[t]? = some (pJ nt T)) : ∃ h', P_Rm_inverse h q t a m = some h' ∧ IOut ku kv k1 k2 aa mm t nt h h' := by
  have D0 := D
  have lm := hM.zm.lt (by decide)
  obtain ⟨U1, g1, g2, _⟩ := e_copy (i_ua D0) (by decide) hna hu ha hA
  have hv1 := hn_ (d := pJ 16 U1) (i_uv D0) hv
  obtain ⟨V1, g3, g4, _⟩ := e_copy (i_vm D0) (by decide) hnm hv1 (hn_ (i_um D0) hm) hM
  have h11 := hn_ (d := pJ 16 V1) (i_vx D0) (hn_ (d := pJ 16 U1) (i_ux D0) h1)
  obtain ⟨X1, g5, g6, _⟩ := e_set (v := 1) (by decide) (by decide) h11
  have h21 := hn_ (d := pJ 17 X1) (i_xy D0) (hn_ (d := pJ 16 V1) (i_vy D0) (hn_ (d := pJ 16 U1) (i_uy D0) h2))
  obtain ⟨Y1, g7, g8, _⟩ := e_set (v := 0) (by decide) (by decide) h21
  have q1 := hn_ (d := pJ 16 U1) (i_uq D0) hq
  have q2 := hn_ (d := pJ 16 V1) (i_vq D0) q1
  have q3 := hn_ (d := pJ 17 X1) (i_xq D0) q2
  have q4 := hn_ (d := pJ 17 Y1) (i_yq D0) q3
  have x4 := hn_ (d := pJ 17 Y1) (i_yx D0) (hs_ (d := pJ 17 X1) h11)
  have y4 := hs_ (d := pJ 17 Y1) h21
  have q5 := hn_ (d := pJ 17 (va_up X1 16 0)) (i_xq D0) q4
  have y5 := hn_ (d := pJ 17 (va_up X1 16 0)) (i_xy D0) y4
  have S : ISt q ku kv k1 k2 m nm mm a na aa t nt fs (((((((h.set ku (pJ 16 U1)).set kv (pJ 16 V1)).set k1 (pJ 17 X1)).set k2 (pJ 17 Y1)).set k1 (pJ 17 (va_up X1 16 0)))).set k2 (pJ 17 (va_up Y1 16 0))) aa mm 1 0 := by
    refine ⟨hn_ (i_yq D0) q5, ⟨M, ?_, hM⟩, ⟨A, ?_, hA⟩, ⟨T, ?_⟩, ⟨U1, ?_, g2⟩, ⟨V1, ?_, g4⟩, ⟨va_up X1 16 0, ?_, g6.eq (fun k hk => up_n (by omega)), up_s⟩, ⟨va_up Y1 16 0, hs_ y5, g8.eq (fun k hk => up_n (by omega)), up_s⟩⟩
    · exact hn_ (i_ym D0) (hn_ (i_xm D0) (hn_ (i_ym D0) (hn_ (i_xm D0) (hn_ (i_vm D0) (hn_ (i_um D0) (hm))))))
    · exact hn_ (i_ya D0) (hn_ (i_xa D0) (hn_ (i_ya D0) (hn_ (i_xa D0) (hn_ (i_va D0) (hn_ (i_ua D0) (ha))))))
    · exact hn_ (i_yt D0) (hn_ (i_xt D0) (hn_ (i_yt D0) (hn_ (i_xt D0) (hn_ (i_vt D0) (hn_ (i_ut D0) (ht))))))
    · exact hn_ (i_yu D0) (hn_ (i_xu D0) (hn_ (i_yu D0) (hn_ (i_xu D0) (hn_ (i_vu D0) ((hs_ hu))))))
    · exact hn_ (i_yv D0) (hn_ (i_xv D0) (hn_ (i_yv D0) (hn_ (i_xv D0) ((hs_ hv1)))))
    · exact hn_ (i_yx D0) (hs_ x4)
  have hm2 := hp.1
  obtain ⟨h', k1', k2'⟩ := iv_loop hf1 hf2 hf3 hf4 D0 hna hnt hnm ha0 (by omega) hodd 1100 0 FU _ _ _ _ _ rfl (by decide) S (by
    refine ⟨⟨by omega, by omega, by omega, by omega, ?_⟩, ?_, ?_, 0, ?_, by omega⟩
    · exact (pr_co hp (fun d => by have := Nat.le_of_dvd (by omega) d; omega)).symm
    · rw [show ((aa : Int) * ((1 : Nat) : Int) - aa) = 0 by omega]; exact Int.dvd_zero _
    · rw [show ((aa : Int) * ((0 : Nat) : Int) - mm) = -(mm : Int) by omega]; exact Int.dvd_neg.mpr (Int.dvd_refl _)
    · rw [Nat.pow_zero, Nat.mul_one]
      have := Nat.mul_lt_mul'' (show aa < 2 ^ 256 by omega) (show mm < 2 ^ 256 by omega)
      omega)
  refine ⟨h', ?_, io_k k2' ((KP.st (by simp)).tr ((KP.st (by simp)).tr ((KP.st (by simp)).tr ((KP.st (by simp)).tr ((KP.st (by simp)).tr (KP.st (by simp)))))))⟩
  unfold P_Rm_inverse
  rw [bs_ (gR_at hq hf1), bs_ g1, bs_ (gR_at q1 hf2), bs_ g3, bs_ (gR_at q2 hf3), show P_Rm_set ((h.set ku (pJ 16 U1)).set kv (pJ 16 V1)) k1 1 = _ from g5, bs_ rfl, bs_ (gR_at q3 hf4), show P_Rm_set (((h.set ku (pJ 16 U1)).set kv (pJ 16 V1)).set k1 (pJ 17 X1)) k2 0 = _ from g7, bs_ rfl, bs_ (gR_at q4 hf3)]
  refine (bs_ (tJ_in 16 x4 rfl (by decide) (by decide))).trans ?_
  refine (bs_ (gR_at q5 hf4)).trans ?_
  refine (bs_ (tJ_in 16 y5 rfl (by decide) (by decide))).trans ?_
  exact k1'
end INV
