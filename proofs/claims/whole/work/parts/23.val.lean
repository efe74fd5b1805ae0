/-! ===== texts: what a text gives ===== -/
/-- a text: key, how many numbers and names, its row for a stack (the class's signs) -/
abbrev AT : Type := Int32 × Int32 × List Int32
def CT (hi : pm_B) (X : Nat) (t : AT) : Prop := hi X 0 = t.1 ∧ hi X 1 = t.2.1 ∧ hi X 2 = nI t.2.2.length ∧ Row (hi (X + 1)) t.2.2
def ev1 (f1 f2 f3 : Int32) (st : List Int32) (c : Int32) : List Int32 :=
  if c < (-3) then (if ¬ c = (-33) then (match st with
    | b :: a :: r => f_Laws_joined (-c) a b :: r
    | _ => []) else (match st with
    | a :: r => (if ¬ a = 0 then 0 else 1) :: r
    | [] => [])) else f_Laws_leafOf c f1 f2 f3 :: st
def evs (f1 f2 f3 : Int32) (code st : List Int32) : List Int32 := code.foldl (ev1 f1 f2 f3) st
def aval (code : List Int32) (f1 f2 f3 : Int32) : Int32 := (evs f1 f2 f3 code []).headD 0
def dp1 (n : Nat) (c : Int32) : Option Nat := if c < (-3) then (if ¬ c = (-33) then (if 2 ≤ n then some (n - 1) else none) else (if 1 ≤ n then some n else none)) else some (n + 1)
def dps : Nat → List Int32 → Option Nat
  | n, [] => some n
  | n, c :: l => (dp1 n c).bind (fun m => dps m l)
def wfp (code : List Int32) : Prop := dps 0 code = some 1 ∧ code.length ≤ 96
theorem m1p (x : Int32) : x + (-1) + 1 = x := by rw [Int32.add_assoc, show ((-1) + 1 : Int32) = 0 by decide, Int32.add_zero]
theorem Row.set {f : Nat → Int32} {ws : List Int32} {w : Int32} (h : Row f ws) (k : Nat) (hk : k = ws.length) : Row (fun j => if j = k then w else f j) (ws ++ [w]) := by
  subst hk
  refine Row.snoc (h.to (fun j hj => ?_)) (by simp)
  exact if_neg (by omega)
theorem pm_u_row {hi : pm_B} {q k : Nat} {w : Int32} : (fun j => pm_u hi q k w q j) = fun j => if j = k then w else hi q j := by
  funext j
  unfold pm_u
  by_cases h : j = k
  · rw [if_pos ⟨rfl, h⟩, if_pos h]
  · rw [if_neg (fun z => h z.2), if_neg h]
theorem Row.u {hi : pm_B} {q k : Nat} {ws : List Int32} {w : Int32} (h : Row (hi q) ws) (hk : k = ws.length) : Row (pm_u hi q k w q) (ws ++ [w]) := by
  show Row (fun j => pm_u hi q k w q j) _
  rw [pm_u_row]
  exact h.set k hk
theorem Row.rev {f : Nat → Int32} {a : Int32} {r : List Int32} (h : Row f (a :: r).reverse) : f r.length = a ∧ Row f r.reverse := by
  rw [List.reverse_cons] at h
  refine ⟨h _ _ (by rw [List.getElem?_append_right (by rw [List.length_reverse]; omega), List.length_reverse, Nat.sub_self]; rfl), fun k w hw => h k w ?_⟩
  rw [List.getElem?_append_left (List.getElem?_eq_some_iff.mp hw).1]
  exact hw
theorem valueOf_c {L d i : Nat} {t : AT} {f1 f2 f3 : Int32} {hi : pm_B} {Q : pm_Q} (hi15 : i < 15) (hT : CT hi (19 + 2 * i) t) (hw : wfp t.2.2) (h : ∀ hi', Fr (fun q _ => q = 49) hi hi' → Q (some (.inl (aval t.2.2 f1 f2 f3))) hi') : pm_C pm_g (SH L) HR (d + 2) m_Laws_valueOf [.inr 17, .inl (nI i), .inl f1, .inl f2, .inl f3] hi Q := by
  obtain ⟨-, -, hlen, hrow⟩ := hT
  obtain ⟨key0, leaves, code⟩ := t
  dsimp only at hlen hrow hw h
  refine v_Laws_valueOf ⟨fun hc => absurd hc (nI_pos (by omega)), fun _ => ⟨fun _ => ⟨i, hi15, rfl, ?_⟩, fun hc => absurd (nI_lt (b := 15) hi15 (by omega)) hc⟩⟩
  have hX := tx_of hi15
  generalize 19 + 2 * i = X at hX hlen hrow ⊢
  have hX49 : X ≠ 49 ∧ X + 1 ≠ 49 := by rcases hX with ⟨j, hj, rfl⟩ | rfl <;> omega
  have key : ∀ (rest : List Int32) (k : Nat) (st : List Int32) (hi' : pm_B) (o8 : Option pm_V), code.drop k = rest → Fr (fun q _ => q = 49) hi hi' → Row (hi' 49) st.reverse → st.length ≤ k → k ≤ code.length → dps st.length rest = some 1 → evs f1 f2 f3 rest st = evs f1 f2 f3 code [] → pm_W pm_g (SH L) HR (d + 1) pm_t23 29 [some (.inr 17), some (.inl (nI i)), some (.inl f1), some (.inl f2), some (.inl f3), some (.inr X), some (.inl (nI st.length + (-1))), some (.inl (nI k)), o8] [] hi' Q := by
    intro rest
    induction rest with
    | nil =>
      intro k st hi' o8 hd hF hr hk hkc hdp hev
      have hkl : code.length ≤ k := List.drop_eq_nil_iff.mp hd
      have h1 : st.length = 1 := Option.some.inj hdp
      match st, h1 with
      | [a], _ =>
        have hend : ((0 : Int32) ≤ nI ([a] : List Int32).length + (-1) → ∃ k3 : Nat, k3 < 96 ∧ nI ([a] : List Int32).length + (-1) = nI k3 ∧ Q (some (.inl (hi' 49 k3))) hi') ∧ (¬ (0 : Int32) ≤ nI ([a] : List Int32).length + (-1) → Q (some (.inl 0)) hi') := by
          rw [show ([a] : List Int32).length = 1 from rfl]
          refine ⟨fun _ => ⟨0, by omega, by decide, ?_⟩, fun hc => absurd (by decide) hc⟩
          have ha := hr.rev.1
          have e : aval code f1 f2 f3 = a := by
            unfold aval
            rw [← hev]
            rfl
          rw [show hi' 49 0 = a from ha, ← e]
          exact h hi' hF
        refine v_Laws_valueOf_29 hX ⟨fun _ => hend, fun hc => absurd ?_ hc⟩
        rw [hF X 2 hX49.1, hlen]
        have hl96 := hw.2
        exact nI_le hkl (by omega)
    | cons c rest ih =>
      intro k st hi' o8 hd hF hr hk hkc hdp hev
      have hkl : k < code.length := by
        by_cases hz : k < code.length
        · exact hz
        · rw [List.drop_eq_nil_of_le (by omega)] at hd
          cases hd
      have hl96 := hw.2
      have hck : code[k]? = some c := by
        have := congrArg List.head? hd
        rw [List.head?_drop] at this
        exact this
      have hd' : code.drop (k + 1) = rest := by
        have := congrArg List.tail hd
        rw [List.tail_drop] at this
        exact this
      have hc : hi' (X + 1) k = c := by rw [hF (X + 1) k hX49.2]; exact hrow k c hck
      have hev' : evs f1 f2 f3 rest (ev1 f1 f2 f3 st c) = evs f1 f2 f3 code [] := hev
      refine v_Laws_valueOf_29 hX ⟨fun hcc => absurd hcc ?_, fun _ => ⟨fun hcc => absurd hcc (nI_ge (b := 96) (by omega) (by omega)), fun _ => ⟨k, by omega, rfl, ?_⟩⟩⟩
      · rw [hF X 2 hX49.1, hlen]
        exact nI_ge hkl (by omega)
      · rw [hc, nI_1]
        unfold dps dp1 at hdp
        unfold ev1 at hev'
        refine ⟨fun h3 => ?_, fun h3 => ?_⟩
        · rw [if_pos h3] at hdp hev'
          refine ⟨fun h33 => ?_, fun h33 => ?_⟩
          · rw [if_pos h33] at hdp hev'
            match st, hr, hk, hdp, hev' with
            | [], _, _, hdp, _ => cases hdp
            | [_], _, _, hdp, _ => cases hdp
            | y :: x :: r, hr, hk, hdp, hev' =>
              have hlr : (y :: x :: r).length = r.length + 2 := rfl
              rw [hlr] at hk hdp ⊢
              rw [if_pos (by omega)] at hdp
              obtain ⟨hy, hr1⟩ := hr.rev
              obtain ⟨hx, hr2⟩ := hr1.rev
              have e1 : nI (r.length + 2) + (-1) = nI (r.length + 1) := pk_m1 (r.length + 1)
              have e2 : nI (r.length + 1) + (-1) = nI r.length := pk_m1 r.length
              rw [e1, e2, nI_1]
              refine ⟨fun _ => ⟨r.length, by omega, rfl, r.length + 1, by omega, rfl, r.length, by omega, rfl, ?_⟩, fun hcc => absurd (nI_le (a := 1) (by omega) (by omega)) hcc⟩
              have hy' : hi' 49 (r.length + 1) = y := hy
              have hx' : hi' 49 r.length = x := hx
              rw [hx', hy', ← e2]
              refine ih (k + 1) (f_Laws_joined (-c) x y :: r) _ _ hd' (hF.tr (Fr.u rfl)) ?_ (by show r.length + 1 ≤ _; omega) hkl hdp hev'
              rw [List.reverse_cons]
              exact hr2.u (by rw [List.length_reverse])
          · rw [if_neg h33] at hdp hev'
            match st, hr, hk, hdp, hev' with
            | [], _, _, hdp, _ => cases hdp
            | y :: r, hr, hk, hdp, hev' =>
              have hlr : (y :: r).length = r.length + 1 := rfl
              rw [hlr] at hk hdp ⊢
              rw [if_pos (by omega)] at hdp
              obtain ⟨hy, hr1⟩ := hr.rev
              have e2 : nI (r.length + 1) + (-1) = nI r.length := pk_m1 r.length
              rw [e2]
              refine ⟨fun _ => ⟨r.length, by omega, rfl, ?_⟩, fun hcc => absurd (nI_pos' (by omega)) hcc⟩
              rw [hy]
              refine ⟨fun hy0 => ⟨r.length, by omega, rfl, ?_⟩, fun hy0 => ⟨r.length, by omega, rfl, ?_⟩⟩
              · dsimp only at hev'
                rw [if_pos hy0] at hev'
                rw [← e2]
                refine ih (k + 1) (0 :: r) _ _ hd' (hF.tr (Fr.u rfl)) ?_ (by show r.length + 1 ≤ _; omega) hkl hdp hev'
                rw [List.reverse_cons]
                exact hr1.u (by rw [List.length_reverse])
              · dsimp only at hev'
                rw [if_neg hy0] at hev'
                rw [← e2]
                refine ih (k + 1) (1 :: r) _ _ hd' (hF.tr (Fr.u rfl)) ?_ (by show r.length + 1 ≤ _; omega) hkl hdp hev'
                rw [List.reverse_cons]
                exact hr1.u (by rw [List.length_reverse])
        · rw [if_neg h3] at hdp hev'
          rw [m1p]
          refine ⟨fun _ => ⟨st.length, by omega, rfl, ?_⟩, fun hcc => absurd (nI_lt (b := 96) (by omega) (by omega)) hcc⟩
          rw [show nI st.length = nI (st.length + 1) + (-1) from (pk_m1 _).symm]
          refine ih (k + 1) (f_Laws_leafOf c f1 f2 f3 :: st) _ _ hd' (hF.tr (Fr.u rfl)) ?_ (by show st.length + 1 ≤ _; omega) hkl hdp hev'
          rw [List.reverse_cons]
          exact hr.u (by rw [List.length_reverse])
  exact key code 0 [] hi none rfl Fr.rf Row.nil (Nat.le_refl _) (Nat.zero_le _) hw.1 rfl
