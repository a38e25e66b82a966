/-! loops of the functions, by an invariant -/
theorem zF_big {n : Nat} (h : n < 100000) : n < zF := h
theorem zloop_all {σ ρ : Type} {step : σ → Option (σ ⊕ ρ)} (I : Nat → σ → Prop) (K : ρ → Prop) (N : Nat)
    (hs : ∀ i s, i < N → I i s → (∃ s', step s = some (.inl s') ∧ I (i + 1) s') ∨ (∃ r, step s = some (.inr r) ∧ K r))
    (he : ∀ s, I N s → ∃ r, step s = some (.inr r) ∧ K r) : ∀ (d i n : Nat) (s : σ), i + d = N → d < n → I i s → ∃ r, zloop step n s = some r ∧ K r
  | 0, i, n, s, h1, h2, h3 => by
    obtain ⟨n, rfl⟩ : ∃ k, n = k + 1 := ⟨n - 1, by omega⟩
    obtain ⟨r, h4, h5⟩ := he s (by have : i = N := by omega
                                   rw [← this]; exact h3)
    exact ⟨r, by unfold zloop; rw [h4], h5⟩
  | d + 1, i, n, s, h1, h2, h3 => by
    obtain ⟨n, rfl⟩ : ∃ k, n = k + 1 := ⟨n - 1, by omega⟩
    rcases hs i s (by omega) h3 with ⟨s', h4, h5⟩ | ⟨r, h4, h5⟩
    · obtain ⟨r, h6, h7⟩ := zloop_all I K N hs he d (i + 1) n s' (by omega) (by omega) h5
      exact ⟨r, by unfold zloop; rw [h4]; exact h6, h7⟩
    · exact ⟨r, by unfold zloop; rw [h4], h5⟩
/-- a loop that counts up to N -/
theorem zloop_rel {σ ρ : Type} {step : σ → Option (σ ⊕ ρ)} (I : Nat → σ → Prop) (K : ρ → Prop) (N i0 : Nat) {s0 : σ} (hN : N < 100000) (hi : i0 ≤ N) (h0 : I i0 s0)
    (hs : ∀ i s, i < N → I i s → ∃ s', step s = some (.inl s') ∧ I (i + 1) s')
    (he : ∀ s, I N s → ∃ r, step s = some (.inr r) ∧ K r) : ∃ r, zloop step zF s0 = some r ∧ K r :=
  zloop_all I K N (fun i s a b => Or.inl (hs i s a b)) he (N - i0) i0 zF s0 (by omega) (zF_big (by omega)) h0
/-- one that may end earlier -/
theorem zloop_rel2 {σ ρ : Type} {step : σ → Option (σ ⊕ ρ)} (I : Nat → σ → Prop) (K : ρ → Prop) (N i0 : Nat) {s0 : σ} (hN : N < 100000) (hi : i0 ≤ N) (h0 : I i0 s0)
    (hs : ∀ i s, i < N → I i s → (∃ s', step s = some (.inl s') ∧ I (i + 1) s') ∨ (∃ r, step s = some (.inr r) ∧ K r))
    (he : ∀ s, I N s → ∃ r, step s = some (.inr r) ∧ K r) : ∃ r, zloop step zF s0 = some r ∧ K r :=
  zloop_all I K N hs he (N - i0) i0 zF s0 (by omega) (zF_big (by omega)) h0
theorem nI_inj {a b : Nat} (ha : a < 2 ^ 31) (hb : b < 2 ^ 31) (h : nI a = nI b) : a = b := (nI_eq ha hb).mp h
