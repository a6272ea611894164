theorem record_m {A : Ab} {x m u : llMem} (hp : IPyr A x m) {l : Nat} (hl : l < A.nl) (rec : llMem → Int32 → Int32 → Int32 → Int32 → Option (llMem × Unit)) {Q : List (List Nat)} (hQ : Q.length = A.dv l) (hV : VB A l Q) (hF : FB A l u) (hA : AS A l u Q [] []) (v2 v3 : Int32) :
    ∃ u', fx_X12_fills_69_j18 rec u (nI Q.length) v2 v3 (nI (costP (miR A l) Q)) = some (u', ()) ∧ RS A l u' (some Q) ∧ RF A l u u' := by
  have h12 := row_12 hp hl
  have hlen := row_len hp hl
  unfold fx_X12_fills_69_j18
  rw [hF.1, hF.2.1, pk_mul, hQ, ← hlen, if_neg (fun z => z rfl), lt_eq]
  obtain ⟨e, f1, f2, f3⟩ := loop_inv (body := fx_X12_fills_69_l40 rec) (fun i s => s.2 = nI i ∧ Sm [91] (llSI u 69 43 (nI (costP (miR A l) Q))) s.1 ∧ ∀ a, a < i → s.1.1 91 a = u.1 90 a) (fun e => Sm [91] (llSI u 69 43 (nI (costP (miR A l) Q))) e ∧ ∀ a, a < (rowOf A l).length → e.1 91 a = u.1 90 a) (rowOf A l).length llFuel (llSI u 69 43 (nI (costP (miR A l) Q)), 0) ⟨rfl, Sm.refl _ _, fun a ha => by omega⟩ (by
    rintro i ⟨s, z⟩ hi ⟨hz, g1, g2⟩
    dsimp only at hz g1 g2
    subst hz
    unfold fx_X12_fills_69_l40
    dsimp only
    rw [(g1 69 (by decide)).1, SI_same, upd_ne (by decide), hF.1, if_neg (nle2 (by omega) (by omega) hi), gI_nI (by omega) (by decide), gI_nI (by omega) (by decide), nI_clamp (by omega), rI_n (by omega), lt_eq, lt_eq, nI_1, (g1 90 (by decide)).1, SI_ne (by decide)]
    refine ⟨_, rfl, rfl, g1.trans (Sm.SI (by decide)), fun a ha => ?_⟩
    dsimp only
    rw [SI_same]
    by_cases ea : a = i
    · rw [ea, upd_same]
    · rw [upd_ne ea]; exact g2 a (by omega)) (by
    rintro ⟨s, z⟩ ⟨hz, g1, g2⟩
    dsimp only at hz g1 g2
    subst hz
    unfold fx_X12_fills_69_l40
    dsimp only
    rw [(g1 69 (by decide)).1, SI_same, upd_ne (by decide), hF.1, if_pos (le2 (by omega) (by omega) (Nat.le_refl _))]
    exact ⟨_, rfl, g1, g2⟩) (llF (by omega))
  rw [f1, Option.bind_some]
  refine ⟨e, rfl, ⟨?_, hQ, hV, fun i hi => ?_⟩, ⟨(Sm.SI (by decide)).trans (f2.mono (by decide)), fun j hj => ?_, fun i hi => ?_⟩⟩
  · rw [(f2 69 (by decide)).1, SI_same, upd_same]
  · rw [f3 i hi]; exact (hA.2.2.1 i hi (by simp) (by simp)).2
  · rw [(f2 69 (by decide)).1, SI_same, upd_ne hj]
  · rw [(f2 90 (by decide)).1, SI_ne (by decide)]
theorem filt_from {R : List Nat} {n i : Nat} (hR : R.Sublist (List.range n)) : R.filter (fun z => decide (i ≤ z)) = if i ∈ R then i :: R.filter (fun z => decide (i + 1 ≤ z)) else R.filter (fun z => decide (i + 1 ≤ z)) := by
  have hs : R.Pairwise (· < ·) := List.Pairwise.sublist hR List.pairwise_lt_range
  clear hR
  induction R with
  | nil => rfl
  | cons a t ih =>
    rw [List.pairwise_cons] at hs
    have ih := ih hs.2
    have all1 : a = i → t.filter (fun z => decide (i ≤ z)) = t.filter (fun z => decide (i + 1 ≤ z)) := fun q => by
      refine List.filter_congr (fun z hz => ?_)
      have := hs.1 z hz
      rw [decide_eq_decide]; omega
    by_cases e : a = i
    · rw [if_pos (by rw [e]; exact List.mem_cons_self ..), List.filter_cons_of_pos (by rw [e]; exact decide_eq_true (Nat.le_refl _)), List.filter_cons_of_neg (by rw [e]; simp), all1 e, e]
    · have hm : (i ∈ a :: t) ↔ i ∈ t := by
        rw [List.mem_cons]
        exact ⟨fun z => by rcases z with z | z; exact absurd z.symm e; exact z, Or.inr⟩
      by_cases e2 : i ≤ a
      · have hnt : i ∉ t := fun q => by have := hs.1 i q; omega
        rw [if_neg (fun q => hnt (hm.mp q)), List.filter_cons_of_pos (by exact decide_eq_true e2), List.filter_cons_of_pos (by exact decide_eq_true (show i + 1 ≤ a by omega)), ih, if_neg hnt]
      · rw [List.filter_cons_of_neg (by simpa using e2), List.filter_cons_of_neg (by simp; omega), ih]
        by_cases e3 : i ∈ t
        · rw [if_pos e3, if_pos (hm.mpr e3)]
        · rw [if_neg e3, if_neg (fun q => e3 (hm.mp q))]
