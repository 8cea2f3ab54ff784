/-! THE LAW 6: the whole loop -/
section LW
variable {X : a_X} {ad : Nat → Nat} {ca : Nat → ClassId} {d kc ks : Nat} {QF : List Frame → Array Value → State → State → Prop}
theorem lw_loop (hd : 40 ≤ d) (hL : X.2.1.2.1 ≤ 3073) (hE : ∀ i M x, wL X ad ca d kc ks QF 1129 i M x) : ∀ n i M x, X.2.1.2.1 ≤ i + n → i ≤ 4000 → LI i M → wL X ad ca d kc ks QF 28 (nI i) M x := by
  intro n
  induction n with
  | zero =>
    intro i M x hn hi4 h
    refine bL_28 hi4 hL (fun _ => hE _ _ _) (fun h5 => ?_)
    omega
  | succ n ih =>
    intro i M x hn hi4 h
    refine bL_28 hi4 hL (fun _ => hE _ _ _) (fun h5 => ?_)
    have K : ∀ M' x', LI (i + 6) M' → wL X ad ca d kc ks QF 1123 (nI i) M' x' := fun M' x' h' => by
      refine bL_1123 h5 hL ?_
      have e : nI i + 6 = nI (i + 6) := nI_k i 6
      rw [e]
      exact ih (i + 6) M' x' (by omega) (by omega) h'
    have h6 : LI (i + 6) M := by
      obtain ⟨S, V, S2, V2, tl, B, fa, fb, TX, R, RD, w, c, m, hR⟩ := h
      exact ⟨S, V, S2, V2, tl, B, fa, fb, TX, R, RD, w, c, m, by omega⟩
    exact ⟨fun _ => cs_chain hd hi4 h5 hL h K, fun _ => cs_prime hd hi4 h5 hL h K, fun _ => cs_numbers hd hi4 h5 hL h K, fun _ => cs_feed hd hi4 h5 hL h K, fun _ => cs_end hd hi4 h5 hL h K, fun _ => cs_text hd hi4 h5 hL h K, fun _ => cs_fault hd hi4 h5 hL h K, fun _ => cs_by hd hi4 h5 hL h K, fun _ => cs_weight hd hi4 h5 hL h K, fun _ => cs_equation hd hi4 h5 hL h K, fun _ => cs_sum hd hi4 h5 hL h K, fun _ => cs_table hd hi4 h5 hL h K, fun _ => cs_commute hd hi4 h5 hL h K, fun _ => cs_keeps hd hi4 h5 hL h K, fun _ => cs_size hd hi4 h5 hL h K, fun _ => cs_trace hd hi4 h5 hL h K, fun _ => cs_poly hd hi4 h5 hL h K, fun _ => cs_own hd hi4 h5 hL h K, fun _ => cs_often hd hi4 h5 hL h K, fun _ => cs_root hd hi4 h5 hL h K, fun _ => cs_mean hd hi4 h5 hL h K, fun _ => cs_pair hd hi4 h5 hL h K, fun _ => cs_set hd hi4 h5 hL h K, fun _ => cs_act hd hi4 h5 hL h K, fun _ => cs_played hd hi4 h5 hL h K, fun _ => cs_undo hd hi4 h5 hL h K, fun _ => cs_redo hd hi4 h5 hL h K, fun _ => cs_at hd hi4 h5 hL h K, fun _ => cs_norm hd hi4 h5 hL h K, fun _ => cs_power hd hi4 h5 hL h K, fun _ => cs_image hd hi4 h5 hL h K, fun _ => cs_back hd hi4 h5 hL h K, fun _ => cs_about hd hi4 h5 hL h K, fun _ => K M x h6⟩
end LW
