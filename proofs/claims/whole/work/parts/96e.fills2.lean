theorem sub_range {n i : Nat} {b : List Nat} (hb : b.Sublist (List.range n)) (hi : i ≤ n) (h : ∀ z, z ∈ b → z < i) : b.Sublist (List.range i) := by
  obtain ⟨k, rfl⟩ := Nat.exists_eq_add_of_le hi
  have e := sub_filter hb List.nodup_range
  rw [List.range_add, List.filter_append] at e
  have z : ((List.range k).map (i + ·)).filter (fun c => b.contains c) = [] := by
    rw [List.filter_eq_nil_iff]
    intro c hc
    obtain ⟨y, _, rfl⟩ := List.mem_map.mp hc
    intro q
    have := h _ (List.contains_iff_mem.mp q)
    omega
  rw [z, List.append_nil] at e
  rw [← e]
  exact List.filter_sublist
theorem sub_snoc {n i : Nat} {b : List Nat} (hb : b.Sublist (List.range n)) (hi : i < n) (h : ∀ z, z ∈ b → z < i) : (b ++ [i]).Sublist (List.range n) := by
  have h1 := sub_range hb (Nat.le_of_lt hi) h
  have h2 : (b ++ [i]).Sublist (List.range (i + 1)) := by
    rw [List.range_succ]
    exact h1.append (List.Sublist.refl _)
  obtain ⟨k, hk⟩ := Nat.exists_eq_add_of_le (show i + 1 ≤ n by omega)
  have h3 : (List.range (i + 1)).Sublist (List.range n) := by
    have e : List.range (i + 1 + k) = List.range (i + 1) ++ (List.range k).map (fun z => (i + 1) + z) := List.range_add
    rw [hk, e]
    exact List.sublist_append_left _ _
  exact h2.trans h3
theorem AS.rf {A : Ab} {l : Nat} {u s : llMem} {Q : List (List Nat)} {b R : List Nat} (h : AS A l u Q b R) (hR : ∀ z, z ∈ R → z < (rowOf A l).length) (hb : ∀ z, z ∈ b → z < (rowOf A l).length) (hf : RF A l u s) : AS A l s Q b R := by
  obtain ⟨a1, a2, a3, a4⟩ := h
  exact ⟨fun i hi => by rw [hf.2.2 i (hR i hi)]; exact a1 i hi, fun i hi => by rw [hf.2.2 i (hb i hi)]; exact a2 i hi, fun i hi h1 h2 => by rw [hf.2.2 i hi]; exact a3 i hi h1 h2, a4⟩
theorem fne {R : List Nat} {i z : Nat} : z ∈ R.filter (fun y => !(y == i)) ↔ z ∈ R ∧ z ≠ i := by
  rw [List.mem_filter]
  constructor
  · rintro ⟨h1, h2⟩
    exact ⟨h1, fun q => by rw [q] at h2; simp at h2⟩
  · rintro ⟨h1, h2⟩
    refine ⟨h1, ?_⟩
    rw [beq_eq_false_iff_ne.mpr h2]; rfl
theorem fne_len {R : List Nat} {i : Nat} (hn : R.Nodup) (h : i ∈ R) : (R.filter (fun y => !(y == i))).length + 1 = R.length := by
  have h1 := filt_not (fun y => y == i) R
  have h2 : R.filter (fun y => y == i) = [i] := by
    have := sub_filter (S := [i]) (List.singleton_sublist.mpr h) hn
    rw [← this]
    refine List.filter_congr (fun z _ => ?_)
    rw [List.contains_cons, List.contains_nil, Bool.or_false]
  rw [h2, List.length_singleton] at h1
  omega
/-- one more of a division -/
theorem AS.more {A : Ab} {l : Nat} {s : llMem} {Q : List (List Nat)} {b R : List Nat} {i : Nat} (h : AS A l s Q b R) (hi : i ∈ R) : AS A l (llSI s 90 i (nI Q.length)) Q (b ++ [i]) (R.filter (fun y => !(y == i))) := by
  obtain ⟨a1, a2, a3, a4⟩ := h
  refine ⟨fun z hz => ?_, fun z hz => ?_, fun z hz h1 h2 => ?_, fun c hc z hz => ?_⟩
  · obtain ⟨z1, z2⟩ := fne.mp hz
    rw [SI_same, upd_ne z2]; exact a1 z z1
  · rcases List.mem_append.mp hz with w | w
    · have := a2 z w
      have ne : z ≠ i := fun q => this.2 (q ▸ hi)
      rw [SI_same, upd_ne ne]
      exact ⟨this.1, fun q => this.2 (fne.mp q).1⟩
    · rw [List.mem_singleton.mp w, SI_same, upd_same]
      exact ⟨rfl, fun q => (fne.mp q).2 rfl⟩
  · have ne : z ≠ i := fun q => h2 (List.mem_append_right _ (by rw [q]; exact List.mem_singleton.mpr rfl))
    rw [SI_same, upd_ne ne]
    exact a3 z hz (fun q => h1 (fne.mpr ⟨q, ne⟩)) (fun q => h2 (List.mem_append_left _ q))
  · obtain ⟨w1, w2⟩ := a4 c hc z hz
    refine ⟨fun q => w1 (fne.mp q).1, fun q => ?_⟩
    rcases List.mem_append.mp q with w | w
    · exact w2 w
    · rw [List.mem_singleton.mp w] at w1; exact w1 hi
/-- a division is full -/
theorem AS.full {A : Ab} {l : Nat} {s : llMem} {Q : List (List Nat)} {b R : List Nat} (h : AS A l s Q b R) : AS A l s (Q ++ [b]) [] R := by
  obtain ⟨a1, a2, a3, a4⟩ := h
  refine ⟨a1, fun z hz => by simp at hz, fun z hz h1 _ => ?_, fun c hc z hz => ?_⟩
  · rw [List.length_append, List.length_singleton]
    by_cases hb : z ∈ b
    · rw [ixP_app_r (fun c hc q => (a4 c hc z q).2 hb) hb]
      exact ⟨by omega, (a2 z hb).1⟩
    · obtain ⟨w1, w2⟩ := a3 z hz h1 hb
      rw [ixP_app_l w1]
      exact ⟨by omega, w2⟩
  · refine ⟨?_, by simp⟩
    rcases List.mem_append.mp hc with w | w
    · exact (a4 c w z hz).1
    · rw [List.mem_singleton.mp w] at hz
      exact (a2 z hz).2
theorem AS.div {A : Ab} {l : Nat} {u : llMem} {Q : List (List Nat)} {b R : List Nat} (h : AS A l u Q b R) (hQ : Q.length < 2 ^ 31) {j : Nat} (hj : j < (rowOf A l).length) : (u.1 90 j = nI Q.length ↔ j ∈ b) := by
  constructor
  · intro q
    by_cases hb : j ∈ b
    · exact hb
    · exfalso
      by_cases hR : j ∈ R
      · rw [h.1 j hR] at q
        rcases nI_sub0 Q.length with z | z
        · exact z q.symm
        · omega
      · obtain ⟨w1, w2⟩ := h.2.2.1 j hj hR hb
        rw [w2] at q
        have := nI_inj (by omega) hQ q
        omega
  · intro hb; exact (h.2.1 j hb).1
theorem AS.free {A : Ab} {l : Nat} {u : llMem} {Q : List (List Nat)} {b R : List Nat} (h : AS A l u Q b R) (hQ : Q.length < 2 ^ 30) {j : Nat} (hj : j < (rowOf A l).length) : (u.1 90 j = -1 ↔ j ∈ R) := by
  constructor
  · intro q
    by_cases hR : j ∈ R
    · exact hR
    · exfalso
      by_cases hb : j ∈ b
      · rw [(h.2.1 j hb).1] at q
        rcases nI_sub0 Q.length with z | z
        · exact z q
        · omega
      · obtain ⟨w1, w2⟩ := h.2.2.1 j hj hR hb
        rw [w2] at q
        rcases nI_sub0 (ixP Q j) with z | z
        · exact z q
        · omega
  · exact h.1 j
theorem RS.w90 {A : Ab} {l : Nat} {u : llMem} {best : Option (List (List Nat))} (h : RS A l u best) (i : Nat) (v : Int32) : RS A l (llSI u 90 i v) best := by
  cases best with
  | none => show _ = _; rw [SI_ne (by decide)]; exact h
  | some P =>
    obtain ⟨y1, y2, y3, y4⟩ := h
    exact ⟨by rw [SI_ne (by decide)]; exact y1, y2, y3, fun z hz => by rw [SI_ne (by decide)]; exact y4 z hz⟩
