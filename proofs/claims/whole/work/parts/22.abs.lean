/-! ===== the abstract folk: rows, speakers; words as sets ===== -/
/-- a row of numbers stands in f from 0 on -/
def Row (f : Nat → Int32) (ws : List Int32) : Prop := ∀ k w, ws[k]? = some w → f k = w
/-- nothing but P's places has changed -/
def Fr (P : Nat → Nat → Prop) (hi hi' : pm_B) : Prop := ∀ q j, ¬ P q j → hi' q j = hi q j
theorem Fr.rf {P : Nat → Nat → Prop} {hi : pm_B} : Fr P hi hi := fun _ _ _ => rfl
theorem Fr.tr {P : Nat → Nat → Prop} {a b c : pm_B} (h1 : Fr P a b) (h2 : Fr P b c) : Fr P a c := fun q j h => (h2 q j h).trans (h1 q j h)
theorem Fr.mono {P P' : Nat → Nat → Prop} {a b : pm_B} (h : Fr P a b) (hp : ∀ q j, P q j → P' q j) : Fr P' a b := fun q j hn => h q j (fun z => hn (hp q j z))
theorem Fr.u {P : Nat → Nat → Prop} {a : pm_B} {q j : Nat} {v : Int32} (hp : P q j) : Fr P a (pm_u a q j v) := fun q' j' hn => pm_u_ne (by
  by_cases h : q' = q
  · subst h
    exact Or.inr (fun z => hn (z ▸ hp))
  · exact Or.inl h)
theorem Row.at {f : Nat → Int32} {ws : List Int32} (h : Row f ws) {k : Nat} (hk : k < ws.length) : f k = ws[k] := h k _ (List.getElem?_eq_getElem hk)
theorem Row.to {f g : Nat → Int32} {ws : List Int32} (h : Row f ws) (hg : ∀ k, k < ws.length → g k = f k) : Row g ws := fun k w hw => (hg k (List.getElem?_eq_some_iff.mp hw).1).trans (h k w hw)
theorem Row.nil {f : Nat → Int32} : Row f [] := fun k w h => by cases h
theorem Row.snoc {f : Nat → Int32} {ws : List Int32} {w : Int32} (h : Row f ws) (hw : f ws.length = w) : Row f (ws ++ [w]) := by
  intro k v hv
  by_cases hk : k < ws.length
  · rw [List.getElem?_append_left hk] at hv
    exact h k v hv
  · rw [List.getElem?_append_right (by omega)] at hv
    have h0 : k - ws.length < 1 := (List.getElem?_eq_some_iff.mp hv).1
    have h1 : k = ws.length := by omega
    subst h1
    simp at hv
    rw [hw, hv]
theorem Row.drop {f : Nat → Int32} {ws : List Int32} (h : Row f ws) (n : Nat) : Row (fun k => f (n + k)) (ws.drop n) := by
  intro k w hw
  rw [List.getElem?_drop] at hw
  exact h _ _ hw
theorem Row.take {f : Nat → Int32} {ws : List Int32} (h : Row f ws) (n : Nat) : Row f (ws.take n) := by
  intro k w hw
  rw [List.getElem?_take] at hw
  split at hw
  · exact h _ _ hw
  · cases hw
theorem ix (p w : Nat) : (7 + 29 * nI p : Int32) + nI w = nI (7 + 29 * p + w) := by
  show nI 7 + nI 29 * nI p + nI w = _
  rw [pk_mul, nI_add, nI_add]
theorem ix5 (p k : Nat) : (7 + 29 * nI p : Int32) + (5 + nI k) = nI (7 + 29 * p + (5 + k)) := by
  show nI 7 + nI 29 * nI p + (nI 5 + nI k) = _
  rw [pk_mul, nI_add, nI_add, nI_add]
theorem ix51 (p k : Nat) : (7 + 29 * nI p : Int32) + (5 + nI k + 1) = nI (7 + 29 * p + (5 + (k + 1))) := by
  show nI 7 + nI 29 * nI p + (nI 5 + nI k + nI 1) = _
  rw [pk_mul, nI_add, nI_add, nI_add, nI_add]
  rfl
/-- the set that a row of words is -/
def setOf (ws : List Int32) : Int32 := ws.foldl (fun (a w : Int32) => a ||| ((1 : Int32) <<< (w &&& 31))) 0
theorem setOf_take {ws : List Int32} {k : Nat} (hk : k < ws.length) : setOf (ws.take (k + 1)) = (setOf (ws.take k) ||| (1 <<< (ws[k] &&& 31))) := by
  unfold setOf
  rw [List.take_succ_eq_append_getElem hk, List.foldl_append]
  rfl
theorem nI_lit_le {n k : Nat} (h : k < n) (hn : n < 2 ^ 31) : ¬ nI n ≤ nI k := nI_ge h hn
/-! Speaker.wordSet -/
theorem wordSet_c {L d S : Nat} {ws : List Int32} {hi : pm_B} {Q : pm_Q} (hS : pm_sk S) (hn : hi S 4 = nI ws.length) (hr : Row (hi (S + 1)) ws) (hl : ws.length ≤ 24) (h : Q (some (.inl (setOf ws))) hi) : pm_C pm_g (SH L) HR (d + 1) m_Speaker_wordSet [.inr S] hi Q := by
  refine v_Speaker_wordSet hS ?_
  have key : ∀ n k, k + n = ws.length → pm_W pm_g (SH L) HR d pm_t64 4 [some (.inr S), some (.inl (setOf (ws.take k))), some (.inl (nI k))] [] hi Q := by
    intro n
    induction n with
    | zero =>
      intro k hk
      have hk : k = ws.length := by omega
      subst hk
      refine v_Speaker_wordSet_4 hS ⟨fun _ => ?_, fun hc => absurd ?_ hc⟩
      · rw [List.take_length]
        exact h
      · rw [hn]
        exact nI_le (Nat.le_refl _) (by omega)
    | succ n ih =>
      intro k hk
      have hk1 : k < ws.length := by omega
      refine v_Speaker_wordSet_4 hS ⟨fun hc => absurd hc ?_, fun _ => ⟨fun hc => absurd hc (nI_ge (b := 24) (by omega) (by omega)), fun _ => ⟨k, by omega, rfl, ?_⟩⟩⟩
      · rw [hn]
        exact nI_ge hk1 (by omega)
      · rw [hr.at hk1, ← setOf_take hk1, nI_1]
        exact ih (k + 1) (by omega)
  exact key ws.length 0 (by omega)
/-! Speaker.putBehind: the words of a row come behind the others -/
theorem putBehind_c {L d S R nR f : Nat} {ws row : List Int32} {hi : pm_B} {Q : pm_Q} (hS : pm_sk S) (hR : (SH L)[R]? = some (1, 0, nR)) (hl : nR ≤ 1000) (hne : R ≠ S + 1) (hne2 : R ≠ S) (hn : hi S 4 = nI ws.length) (hr : Row (hi (S + 1)) ws) (hrow : Row (fun k => hi R (f + k)) row) (hb : f + row.length ≤ nR) (hlen : ws.length + row.length ≤ 24)
    (h : ∀ hi', Fr (fun q j => q = S + 1 ∨ (q = S ∧ j = 4)) hi hi' → hi' S 4 = nI (ws ++ row).length → Row (hi' (S + 1)) (ws ++ row) → Q none hi') : pm_C pm_g (SH L) HR (d + 1) m_Speaker_putBehind [.inr S, .inr R, .inl (nI f), .inl (nI row.length)] hi Q := by
  refine v_Speaker_putBehind hS hR (by omega) ?_
  have key : ∀ n k hi' o5, k + n = row.length → Fr (fun q j => q = S + 1 ∨ (q = S ∧ j = 4)) hi hi' → hi' S 4 = nI (ws.length + k) → Row (hi' (S + 1)) (ws ++ row.take k) → pm_W pm_g (SH L) HR d pm_t65 3 [some (.inr S), some (.inr R), some (.inl (nI f)), some (.inl (nI row.length)), some (.inl (nI k)), o5] [] hi' Q := by
    intro n
    induction n with
    | zero =>
      intro k hi' o5 hk hF h4 hrw
      have hk : k = row.length := by omega
      subst hk
      refine v_Speaker_putBehind_3 hS hR (by omega) ⟨fun _ => ?_, fun hc => absurd (nI_le (Nat.le_refl _) (by omega)) hc⟩
      rw [List.take_length] at hrw
      exact h hi' hF (by rw [h4, List.length_append]) hrw
    | succ n ih =>
      intro k hi' o5 hk hF h4 hrw
      have hk1 : k < row.length := by omega
      have hRS : ∀ j, hi' R j = hi R j := fun j => hF R j (by omega)
      refine v_Speaker_putBehind_3 hS hR (by omega) ⟨fun hc => absurd hc (nI_ge hk1 (by omega)), fun _ => ?_⟩
      rw [nI_add]
      refine ⟨fun hc => absurd hc (nI_pos (by omega)), fun _ => ⟨fun hc => absurd hc (nI_ge (by omega) (by omega)), fun _ => ?_⟩⟩
      rw [h4]
      refine ⟨fun hc => absurd hc (nI_pos (by omega)), fun _ => ⟨fun _ => ⟨f + k, by omega, rfl, ws.length + k, by omega, rfl, ?_⟩, fun hc => absurd (nI_lt (b := 24) (by omega) (by omega)) hc⟩⟩
      intro hi8 e8
      rw [nI_1]
      have hS4 : pm_u hi' (S + 1) (ws.length + k) (hi' R (f + k)) S 4 = nI (ws.length + k) := by rw [pm_u_ne (Or.inl (by omega)), h4]
      rw [hS4, nI_1] at e8
      subst e8
      refine ih (k + 1) _ _ (by omega) (hF.tr ((Fr.u (Or.inl rfl)).tr (Fr.u (Or.inr ⟨rfl, rfl⟩)))) (by rw [pm_u_at, Nat.add_assoc]) ?_
      rw [List.take_succ_eq_append_getElem hk1, ← List.append_assoc]
      refine Row.snoc (hrw.to (fun j hj => ?_)) ?_
      · rw [List.length_append, List.length_take] at hj
        rw [pm_u_ne (Or.inl (by omega)), pm_u_ne (Or.inr (by omega))]
      · rw [List.length_append, List.length_take, show ws.length + min k row.length = ws.length + k by omega, pm_u_ne (Or.inl (by omega)), pm_u_at, hRS]
        exact hrow.at hk1
  refine key row.length 0 hi none (by omega) Fr.rf (by rw [hn]; rfl) ?_
  rw [List.take_zero, List.append_nil]
  exact hr
/-! Speaker.forgetOldest -/
theorem nI_sub {a b : Nat} (h : b ≤ a) : nI a - nI b = nI (a - b) := pk_sub h
theorem forgetOldest_c {L d S n : Nat} {ws : List Int32} {hi : pm_B} {Q : pm_Q} (hS : pm_sk S) (hn : hi S 4 = nI ws.length) (hr : Row (hi (S + 1)) ws) (hl : ws.length ≤ 24) (hle : n ≤ ws.length)
    (h : ∀ hi', Fr (fun q j => q = S + 1 ∨ (q = S ∧ j = 4)) hi hi' → hi' S 4 = nI (ws.drop n).length → Row (hi' (S + 1)) (ws.drop n) → Q none hi') : pm_C pm_g (SH L) HR (d + 1) m_Speaker_forgetOldest [.inr S, .inl (nI n)] hi Q := by
  refine v_Speaker_forgetOldest hS ⟨fun hc => ?_, fun hc => ⟨fun _ => ?_, fun hc => absurd ?_ hc⟩⟩
  · have h0 : n = 0 := by
      by_cases h0 : n = 0
      · exact h0
      · exact absurd hc (nI_nlt (b := 1) (by omega) (by omega))
    subst h0
    exact h hi Fr.rf hn hr
  · have hn0 : 0 < n := by
      by_cases h0 : 0 < n
      · exact h0
      · have : n = 0 := by omega
        subst this
        exact absurd (by decide) hc
    have key : ∀ m k hi', k + m = ws.length - n → Fr (fun q j => q = S + 1 ∨ (q = S ∧ j = 4)) hi hi' → hi' S 4 = nI (ws.length - n) → (∀ j, j < k → hi' (S + 1) j = hi (S + 1) (n + j)) → (∀ j, k ≤ j → hi' (S + 1) j = hi (S + 1) j) → pm_W pm_g (SH L) HR d pm_t66 26 [some (.inr S), some (.inl (nI n)), some (.inl (nI k))] [] hi' Q := by
      intro m
      induction m with
      | zero =>
        intro k hi' hk hF h4 h5 h6
        have hk : k = ws.length - n := by omega
        subst hk
        refine v_Speaker_forgetOldest_26 hS ⟨fun _ => h hi' hF (by rw [h4, List.length_drop]) ?_, fun hc => absurd ?_ hc⟩
        · refine (hr.drop n).to (fun j hj => ?_)
          rw [List.length_drop] at hj
          exact h5 j hj
        · rw [h4]
          exact nI_le (Nat.le_refl _) (by omega)
      | succ m ih =>
        intro k hi' hk hF h4 h5 h6
        have hk1 : k < ws.length - n := by omega
        refine v_Speaker_forgetOldest_26 hS ⟨fun hc => absurd hc ?_, fun _ => ?_⟩
        · rw [h4]
          exact nI_ge hk1 (by omega)
        · rw [nI_add]
          refine ⟨fun hc => absurd hc (nI_ge (b := 24) (by omega) (by omega)), fun _ => ⟨k + n, by omega, rfl, k, by omega, rfl, ?_⟩⟩
          rw [nI_1]
          refine ih (k + 1) _ (by omega) (hF.tr (Fr.u (Or.inl rfl))) (by rw [pm_u_ne (Or.inl (by omega))]; exact h4) (fun j hj => ?_) (fun j hj => ?_)
          · by_cases hjk : j = k
            · subst hjk
              rw [pm_u_at, h6 _ (by omega), Nat.add_comm j n]
            · rw [pm_u_ne (Or.inr hjk)]
              exact h5 j (by omega)
          · rw [pm_u_ne (Or.inr (by omega))]
            exact h6 j (by omega)
    rw [hn, nI_sub hle]
    refine key (ws.length - n) 0 _ (by omega) (Fr.u (Or.inr ⟨rfl, rfl⟩)) pm_u_at (fun j hj => by omega) (fun j _ => pm_u_ne (Or.inl (by omega)))
  · rw [hn]
    exact nI_le hle (by omega)
