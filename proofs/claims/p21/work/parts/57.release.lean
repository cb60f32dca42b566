/-! Forms.release -/
def popM (M : Mem) (top p : Nat) : Mem := mwr (mwr (mwr M 10 p (M 11 top)) 1 12 (M 3 top)) 1 11 (nI top)
theorem FT_pop {M : Mem} {tb : List T} {t : T} (h : FT M (tb ++ [t])) : ∃ p, p < 512 ∧ M 12 (16 + tb.length) = nI p ∧ FT (popM M (16 + tb.length) p) tb := by
  obtain ⟨h1, h2, h3, h4, h5, h6, h7, h8, h9, h10⟩ := h
  have hlen : (tb ++ [t]).length = tb.length + 1 := by simp
  rw [hlen] at h2 h3 h4 h5 h6 h7 h10
  have ge : ∀ {i : Nat} (hi : i < tb.length) (hi' : i < (tb ++ [t]).length), (tb ++ [t])[i] = tb[i] := fun hi hi' => List.getElem_append_left hi
  obtain ⟨-, p, hp, p1, p2⟩ := h9 tb.length (by rw [hlen]; omega)
  refine ⟨p, hp, p1, ?_⟩
  generalize hM' : popM M (16 + tb.length) p = M'
  have far : ∀ c, c ≠ 1 → c ≠ 10 → M' c = M c := fun c a b => by
    rw [← hM']
    unfold popM
    rw [mwr_ne _ _ _ a, mwr_ne _ _ _ a, mwr_ne _ _ _ b]
  have pv : ∀ n q, prv M' n q = prv M n q := fun n q => prv_congr n q (fun id _ => by rw [far 12 (by omega) (by omega)])
  have ek : ∀ s n, kidsAt M' s n = kidsAt M s n := fun s n => by unfold kidsAt; rw [far 9 (by omega) (by omega)]
  have hst := stof_mono (tb := tb ++ [t]) (i := tb.length) (j := tb.length + 1) (by omega)
  rw [stof_app (Nat.le_refl _)] at hst
  refine ⟨⟨?_, fun x hx => h1.2 x (List.mem_append_left _ hx)⟩, by omega, by omega, ?_, ?_, fun id hid => ?_, fun i hi => ?_, fun i hi j hj => ?_, fun i hi => ?_, fun q hq => ?_⟩
  · exact (List.nodup_append.mp h1.1).1
  · rw [← hM']
    unfold popM
    rw [mwr_at]
  · rw [← hM']
    unfold popM
    rw [mwr_in _ (by omega), mwr_at, h7 tb.length (by omega), stof_app (Nat.le_refl _)]
  · have := h6 id (by omega)
    rw [dn_snoc hid] at this
    unfold attr at this ⊢
    rw [far 2 (by omega) (by omega), far 4 (by omega) (by omega), far 5 (by omega) (by omega), far 6 (by omega) (by omega), far 7 (by omega) (by omega), far 8 (by omega) (by omega)]
    exact this
  · rw [far 3 (by omega) (by omega), h7 i (by omega), stof_app (by omega)]
  · have q := h8 i (by rw [hlen]; omega) j
    simp only [ge hi] at q
    rw [stof_app (by omega)] at q
    obtain ⟨id, b1, b2, b3⟩ := q hj
    exact ⟨id, b1, by rw [far 9 (by omega) (by omega)]; exact b2, by rw [← b3, dn_snoc (by omega)]⟩
  · have q := h9 i (by rw [hlen]; omega)
    rw [ge hi, stof_app (by omega)] at q
    obtain ⟨q1, p', q2, q3, q4⟩ := q
    rw [far 12 (by omega) (by omega), far 11 (by omega) (by omega), ek]
    exact ⟨q1, p', q2, q3, by rw [pv]; exact q4⟩
  · rw [pv]
    have q1 := h10 q hq
    rw [show 16 + (tb.length + 1) = (16 + tb.length) + 1 by omega] at q1
    unfold prv at q1
    rw [p1] at q1
    by_cases hqp : q = p
    · subst hqp
      rw [← hM']
      unfold popM
      rw [mwr_off _ _ _ (by omega), mwr_off _ _ _ (by omega), mwr_at, p2]
    · rw [if_neg (fun e => hqp ((nI_eq (by omega) (by omega)).mp e.2).symm)] at q1
      rw [← hM']
      unfold popM
      rw [mwr_off _ _ _ (by omega), mwr_off _ _ _ (by omega), mwr_in _ hqp, q1]
theorem release_7 (mark : Nat) (hm : 16 ≤ mark) (hm2 : mark < 2147483648) : ∀ (n : Nat) (tb : List T) (M : Mem), FT M tb → tb.length < n → ∃ M', f_X1_release_7 n (nI mark) (nI (15 + tb.length)) M = some (nI 0, M') ∧ FT M' (tb.take (mark - 16)) ∧ (∀ c, c ≠ 1 → c ≠ 10 → M' c = M c) := by
  intro n
  induction n with
  | zero => intro tb M h1 h2; omega
  | succ n ih =>
    intro tb M h hn
    have hl := h.2.1
    rw [f_X1_release_7]
    unfold f_X1_release_56
    by_cases h1 : 15 + tb.length < mark
    · simp (disch := omega) only [nlt, h1, if_true]
      exact ⟨M, rfl, by rw [List.take_of_length_le (by omega)]; exact h, fun _ _ _ => rfl⟩
    · by_cases h2 : 15 + tb.length < 16
      · simp (disch := omega) only [nlt, h1, h2, if_true, if_false]
        exact ⟨M, rfl, by rw [List.take_of_length_le (by omega)]; exact h, fun _ _ _ => rfl⟩
      · obtain ⟨tb', t, rfl⟩ : ∃ tb' t, tb = tb' ++ [t] := by
          rcases List.eq_nil_or_concat tb with e | ⟨l, b, e⟩
          · subst e; simp at h2
          · exact ⟨l, b, by rw [e, List.concat_eq_append]⟩
        have hlen : (tb' ++ [t]).length = tb'.length + 1 := by simp
        rw [hlen] at h1 h2 hn hl ⊢
        obtain ⟨p, hp, p1, hF⟩ := FT_pop h
        rw [show 15 + (tb'.length + 1) = 16 + tb'.length by omega] at h1 h2 ⊢
        simp (disch := omega) only [nlt, h1, h2, if_false, mrd_n, Option.bind_some, p1, mst_n, mpi_n, nsub]
        have e3 : mwr M 10 p (M 11 (16 + tb'.length)) 3 (16 + tb'.length) = M 3 (16 + tb'.length) := mwr_off _ _ _ (by omega)
        rw [e3]
        have := ih tb' (popM M (16 + tb'.length) p) hF (by omega)
        rw [show 16 + tb'.length - 1 = 15 + tb'.length by omega]
        obtain ⟨M', a, b, c⟩ := this
        refine ⟨M', a, ?_, fun c' g1 g2 => ?_⟩
        · rw [List.take_append_of_le_length (by omega)]
          exact b
        · rw [c c' g1 g2]
          unfold popM
          rw [mwr_ne _ _ _ g1, mwr_ne _ _ _ g1, mwr_ne _ _ _ g2]
theorem release_ok {M : Mem} {tb : List T} (h : FT M tb) {mark : Nat} (hm : 16 ≤ mark) (hm2 : mark < 2147483648) : ∃ M', f_X1_release (nI mark) M = some (nI 0, M') ∧ FT M' (tb.take (mark - 16)) ∧ ∀ c, c ≠ 1 → c ≠ 10 → M' c = M c := by
  have hl := h.2.1
  unfold f_X1_release
  rw [h.2.2.2.1, nsub (by omega), show 16 + tb.length - 1 = 15 + tb.length by omega]
  exact release_7 mark hm hm2 fuelN tb M h (by unfold fuelN; omega)
