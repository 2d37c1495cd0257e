/-- the memory at the law's entry -/
def mi00 (L : Nat) (xs : Nat → Int) : Nat → Nat → Int := fun k j => if k = 1000 then (if j = 0 then (L : Int) else xs (j - 1)) else 0
theorem whole_of (H : ∀ (L : Nat) (xs : Nat → Int), L ≤ 4096 → (∀ j, ir (xs j)) → WP 0 1000 172 0 [some (vR (some 1000)), none, none, none] [] (mi00 L xs, (fun _ _ => none), 0) (fun r _ => r = some (vI 1)))
    {p : Program} {e : Env} {s : State} {m : MethodId} {below : List Frame} {meth : Method} {c : Code} (l : Launch) {b L : Nat} {xs : Nat → Int32} (hL : L ≤ 4096) (C0 : lw_At p s m meth c b L xs) : W p l e room_1 s m #[Value.ref b] below meth c s.heap [] 0 0 (lw_Z below #[Value.ref b] s) (entryFrame m ([Value.ref b] : List Value).toArray 4) := by
  obtain ⟨hx, hb, hr, hml, hown, hts, hX, hbl, hlocks, hgv⟩ := id C0
  obtain ⟨X, x1, x2, x3, x4, hE⟩ := ev_start hts hX hbl hL hgv
  have htw : ∀ w ∈ Wds, w.before #[Value.ref b] s = true := fun w hw => hts w (List.mem_filter.mp hw).1
  have hl := lv_entry ([Value.ref b]) (n := 4) (Nat.le_of_ble_eq_true rfl)
  rw [lg_entry_eq]
  have had : ad X 1000 = b := by unfold ad; rw [if_neg (by decide)]; exact x2
  have hn172 : nsu 172 ≤ 7302249 := by decide +kernel
  have hC : Cn X 0 1000 172 p room_1 s m #[Value.ref b] meth c 0 := ⟨hx, hb, hr, hml, hown, htw, hlocks, fun h => absurd h (by decide +kernel), by decide, by decide, by decide, by show nsu 172 - nsu 0 ≤ 7302249; omega, hE⟩
  have hM : okM X (mi00 L (fun j => (xs j).toInt), (fun _ _ => none), 0) := ⟨fun k j hk => absurd hk (Nat.not_lt_zero _), fun k j _ hk => ⟨by show (if k = 1000 then _ else _) = _; rw [if_neg (by omega)], rfl⟩, Nat.zero_le _, by rw [x3]; rfl, fun j => by rw [x4]; rfl⟩
  have hokL : okL X [some (vR (some 1000)), none, none, none] 0 ((lg_sl [Value.ref b] ++ List.replicate (4 - (lg_sl [Value.ref b]).length) Slot.unset).toArray) (m_ml 0) := by
    refine ⟨rfl, fun i v hv => ?_, _, hl, fun i v hv => ?_⟩
    · match i, hv with
      | 0, hv => simp at hv; subst hv; intro k hk; cases hk; right; omega
      | 1, hv => simp at hv
      | 2, hv => simp at hv
      | 3, hv => simp at hv
      | i + 4, hv => simp at hv
    · match i, hv with
      | 0, hv => simp at hv; subst hv; rw [show rv X (vR (some 1000)) = .ref (ad X 1000) from rfl, had]; exact List.mem_cons_self
      | 1, hv => simp at hv
      | 2, hv => simp at hv
      | 3, hv => simp at hv
      | i + 4, hv => simp at hv
  have hW : Wd X (mi00 L (fun j => (xs j).toInt), (fun _ _ => none), 0) s.heap := ⟨by rw [x1]; rfl, fun q _ => by rw [x1], fun k hk => absurd hk (Nat.not_lt_zero _)⟩
  have hRt : Rt X 0 172 p l e room_1 s m #[Value.ref b] below meth c (lw_Z below #[Value.ref b] s) 0 (fun r _ => r = some (vI 1)) := by
    intro r M' H' locs' pc' ls' i hQ hM' hokr hW' hl' hb' hri hdec
    subst hQ
    obtain ⟨rfl, -⟩ := hri
    refine va_forget (fun q hq => by rw [← x1]; exact hl' q hq) ?_
    refine W.widen (k := 600000) (n := 7302249) (by decide) (by omega) ?_
    exact lw_ret hx hb hr hlocks hdec
  have := H L (fun j => (xs j).toInt) hL (fun j => ir_toInt _) X p l e room_1 s m #[Value.ref b] below meth c s.heap [] (lw_Z below #[Value.ref b] s) _ 0 hC hM (fun v hv => by cases hv) hokL hW (fun q hq => by cases hq) ⟨Nat.le_refl _, Nat.zero_le _⟩ hRt
  exact this
