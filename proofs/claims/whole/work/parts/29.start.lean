/-! THE LAW'S START OUT OF THE PURE CLAIM -/
def ah0 : AH := (fun _ => (0, 0), fun _ _ => 0, fun _ _ => 0, fun _ _ => none)
theorem st_arr {s : State} {args : Array Value} {ty : FieldType} (h : (Cond.arrayClass ty).before args s = true) : ∃ cA : ClassId, ArrOfT s cA ty ∧ s.vm.findClass ("[" ++ ty.toString) = some cA := by
  obtain ⟨c, k, comp, h1, h2, h3⟩ := Cond.arrayClass_spec h
  exact ⟨c, fun n z => ⟨fun k h => (by cases h), k, h2, comp, h3⟩, h1⟩
theorem st_mem {w : Cond} (i : Nat) (h : tables_1[i]? = some w) : w ∈ lw_tbl := List.mem_append_right _ (List.mem_of_getElem? h)
theorem whole_of {p : Program} {e : Env} {s : State} {m : MethodId} {below : List Frame} {meth : Method} {c : Code} (l : Launch) (hflags : l.flags = flags0) {b L : Nat} {xs : Nat → Int32} (C0 : lw_At p s m meth c b L xs) (hpure : fL_law xs L b s.heap.size ah0 = some ()) : W p l e room_1 s m #[Value.ref b] below meth c s.heap [] 0 0 (lw_Z below #[Value.ref b] s) (entryFrame m ([Value.ref b] : List Value).toArray 7) := by
  obtain ⟨hx, hb, hr, hml, hown, hts, hX, hbl, hlocks, hgv⟩ := id C0
  have hst : l.stackTraces = false := by
    unfold Launch.stackTraces
    rw [hflags]
    decide +kernel
  have hs := flat_of_before _ hgv
  have hg : ∀ w ∈ gtbl, w.before #[Value.ref b] s = true := fun w hw => hts w (List.mem_filter.mp hw).1
  obtain ⟨c0, i0, K0⟩ := u_known (C := RX0) (T := TX0) (N := 14) (n := 14) hg inG0 (hts (.instantiable RX0 14) (st_mem 28 (by decide +kernel)))
  obtain ⟨c1, i1, K1⟩ := u_known (C := RX1) (T := TX1) (N := 3) (n := 3) hg inG1 (hts (.instantiable RX1 3) (st_mem 200 (by decide +kernel)))
  obtain ⟨c2, i2, K2⟩ := u_known (C := RX2) (T := TX2) (N := 4) (n := 4) hg inG2 (hts (.instantiable RX2 4) (st_mem 34 (by decide +kernel)))
  obtain ⟨c3, i3, K3⟩ := u_known (C := RX3) (T := TX3) (N := 2) (n := 2) hg inG3 (hts (.instantiable RX3 2) (st_mem 216 (by decide +kernel)))
  obtain ⟨c4, i4, K4⟩ := u_known (C := RX4) (T := TX4) (N := 6) (n := 6) hg inG4 (hts (.instantiable RX4 6) (st_mem 60 (by decide +kernel)))
  obtain ⟨c5, i5, K5⟩ := u_known (C := RX5) (T := TX5) (N := 2) (n := 2) hg inG5 (hts (.instantiable RX5 2) (st_mem 232 (by decide +kernel)))
  obtain ⟨c6, i6, K6⟩ := u_known (C := RX6) (T := TX6) (N := 4) (n := 4) hg inG6 (hts (.instantiable RX6 4) (st_mem 156 (by decide +kernel)))
  obtain ⟨c7, i7, K7⟩ := u_known (C := RX7) (T := TX7) (N := 4) (n := 4) hg inG7 (hts (.instantiable RX7 4) (st_mem 179 (by decide +kernel)))
  obtain ⟨c8, i8, K8⟩ := u_known (C := RX8) (T := TX8) (N := 7) (n := 7) hg inG8 (hts (.instantiable RX8 7) (st_mem 20 (by decide +kernel)))
  obtain ⟨c9, i9, K9⟩ := u_known (C := RX9) (T := TX9) (N := 20) (n := 20) hg inG9 (hts (.instantiable RX9 20) (st_mem 914 (by decide +kernel)))
  obtain ⟨dC, dI, hKc⟩ : ∃ (dC : Nat → ClassId) (dI : Nat → Nat → Nat), ∀ (k : Nat) (q : vw_C), vwCl[k]? = some q → u_Kn s q.1 q.2.1 q.2.2 (dC k) (dI k) := by
    refine ⟨fun k => match k with | 0 => c0 | 1 => c1 | 2 => c2 | 3 => c3 | 4 => c4 | 5 => c5 | 6 => c6 | 7 => c7 | 8 => c8 | _ => c9, fun k => match k with | 0 => i0 | 1 => i1 | 2 => i2 | 3 => i3 | 4 => i4 | 5 => i5 | 6 => i6 | 7 => i7 | 8 => i8 | _ => i9, ?_⟩
    intro k q hq
    match k, hq with
    | 0, hq => cases hq; exact K0
    | 1, hq => cases hq; exact K1
    | 2, hq => cases hq; exact K2
    | 3, hq => cases hq; exact K3
    | 4, hq => cases hq; exact K4
    | 5, hq => cases hq; exact K5
    | 6, hq => cases hq; exact K6
    | 7, hq => cases hq; exact K7
    | 8, hq => cases hq; exact K8
    | 9, hq => cases hq; exact K9
    | k + 10, hq => simp [vwCl] at hq
  obtain ⟨cB, hB1, hB2⟩ := st_arr (hts (.arrayClass .byte) (st_mem 504 (by decide +kernel)))
  obtain ⟨cCh, hC1, hC2⟩ := st_arr (hts (.arrayClass .char) (st_mem 246 (by decide +kernel)))
  obtain ⟨cI, hI1, hI2⟩ := st_arr (hts (.arrayClass .int) (st_mem 58 (by decide +kernel)))
  obtain ⟨cJ, hJ1, hJ2⟩ := st_arr (hts (.arrayClass .long) (st_mem 90 (by decide +kernel)))
  have hAO := hts (.arrayOver (.object RX0)) (st_mem 222 (by decide +kernel))
  obtain ⟨comp, cO, kO, hO1, -, hO3, hO4, hO5⟩ := Cond.arrayOver_spec hAO
  have hstr : ∀ k : Nat, k = 287 ∨ k = 294 ∨ k = 299 → ∃ a : Nat, (Term.string "ProbeLocks" k).eval #[Value.ref b] s none [] s = some (.ref a) := by
    intro k hk
    rcases hk with rfl | rfl | rfl
    · obtain ⟨a, -, -, -, h9, -⟩ := Cond.exactly_spec (hs (Cond.exactly (Term.string "ProbeLocks" 287) "java/lang/String") (by decide +kernel))
      exact ⟨a, h9⟩
    · obtain ⟨a, -, -, -, h9, -⟩ := Cond.exactly_spec (hs (Cond.exactly (Term.string "ProbeLocks" 294) "java/lang/String") (by decide +kernel))
      exact ⟨a, h9⟩
    · obtain ⟨a, -, -, -, h9, -⟩ := Cond.exactly_spec (hs (Cond.exactly (Term.string "ProbeLocks" 299) "java/lang/String") (by decide +kernel))
      exact ⟨a, h9⟩
  obtain ⟨sa, hsa⟩ : ∃ sa : Nat → Nat, ∀ k : Nat, k = 287 ∨ k = 294 ∨ k = 299 → (Term.string "ProbeLocks" k).eval #[Value.ref b] s none [] s = some (.ref (sa k)) := by
    obtain ⟨x1, y1⟩ := hstr 287 (Or.inl rfl)
    obtain ⟨x2, y2⟩ := hstr 294 (Or.inr (Or.inl rfl))
    obtain ⟨x3, y3⟩ := hstr 299 (Or.inr (Or.inr rfl))
    refine ⟨fun k => if k = 287 then x1 else if k = 294 then x2 else x3, fun k hk => ?_⟩
    rcases hk with rfl | rfl | rfl
    · exact y1
    · exact y2
    · exact y3
  let g : JG := (l, (dC, dI), (fun t => match t with | 0 => cB | 1 => cCh | 2 => cI | 3 => cJ | _ => cO), s.heap.size, sa, b, L, xs)
  have hA : ∀ a : Nat, a < s.heap.size → ¬ (fun q => jB g ≤ q) a := fun a ha => Nat.not_le.mpr ha
  have hKg : va_K (jD g) vwCl (jT g) s := by
    refine ⟨hKc, fun k q hq => ?_⟩
    match k, hq with
    | 0, hq => cases hq; exact ⟨hB1, hB2⟩
    | 1, hq => cases hq; exact ⟨hC1, hC2⟩
    | 2, hq => cases hq; exact ⟨hI1, hI2⟩
    | 3, hq => cases hq; exact ⟨hJ1, hJ2⟩
    | 4, hq => cases hq; exact ⟨fun n z => ⟨fun k h => (by cases h), kO, hO3, comp, hO4⟩, ⟨kO, comp, hO3, hO4, hO1, hO5⟩⟩
    | k + 5, hq => simp [jT] at hq
  have hXg : jX g s := by
    refine ⟨fun w hw hn => ?_, fun w hw hn => ?_, ?_, ?_, fun k tx hk => ?_, va_AO.of hAO, ⟨?_, ?_, ?_⟩, hX, hbl, hbl⟩
    · cases w with
      | methodLinkNest a b c d => exact va_Nw.of rfl (hts _ hw)
      | _ => cases hn
    · rcases hn with ⟨x, y, rfl⟩ | ⟨x, rfl⟩
      · exact va_Nw.of rfl (hts _ hw)
      · exact va_Nw.of rfl (hts _ hw)
    · exact vx_Zqof (hts (.laysStatic Bundle.tN "UNASSIGNED_STACK" Bundle.steD) (st_mem 464 (by decide +kernel))) (hts (.initialized Bundle.tN) (st_mem 11 (by decide +kernel))) (hs (Cond.isRef (Term.static Bundle.tN "UNASSIGNED_STACK" Bundle.steD)) (by decide +kernel)) hA
    · exact vx_Zqof (hts (.laysStatic Bundle.tN "SUPPRESSED_SENTINEL" Bundle.listD) (st_mem 466 (by decide +kernel))) (hts (.initialized Bundle.tN) (st_mem 11 (by decide +kernel))) (hs (Cond.isRef (Term.static Bundle.tN "SUPPRESSED_SENTINEL" Bundle.listD)) (by decide +kernel)) hA
    · have h9 : (lw_tbl.all fun w => match w with
        | .stringRef o k _ => !(decide (o = RX8)) || decide (k = 287) || decide (k = 294) || decide (k = 299)
        | _ => true) = true := by decide +kernel
      have h8 := List.all_eq_true.mp h9 _ hk
      simp only [decide_true, Bool.not_true, Bool.false_or, Bool.or_eq_true, decide_eq_true_eq] at h8
      have h7 := hsa k (by omega)
      have h6 := hts _ hk
      exact vk_R.of h6 h7
    · exact va_Nc.of (hs (Cond.not (.castable "java/lang/IllegalStateException" "java/lang/IndexOutOfBoundsException")) (by decide +kernel))
    · exact va_Nc.of (hs (Cond.not (.castable "java/lang/IllegalArgumentException" "java/lang/IndexOutOfBoundsException")) (by decide +kernel))
    · exact va_Nc.of (hs (Cond.not (.castable "java/lang/IllegalStateException" "java/lang/IllegalArgumentException")) (by decide +kernel))
  have hl := lv_entry ([.ref b]) (n := 7) (Nat.le_of_ble_eq_true rfl)
  have hl : lv_has _ 7 (jA 0 [some (.ref b), none, none, none, none, none, none]) := hl
  rw [lg_entry_eq]
  have hJ := wfL_law (g := g) (nm := meth.name) hst (a0 := b) rfl hpure
  have hW := hJ p e s m #[Value.ref b] below meth c s.heap [] _ ⟨hx, hb, hml, hr, hown, hlocks, rfl, (fun t ht => by cases ht), hg, hKg, hXg, Nat.le_refl _⟩ ⟨rfl, Nat.le_refl _, fun a ha => absurd rfl ha⟩ va_S.rf hl
  intro T hT X
  obtain ⟨t, a1, b1⟩ := hW T hT X
  exact ⟨t, a1, b1 ⟨rfl, rfl⟩⟩
