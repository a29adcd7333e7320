/-! the calls that ask, at the memories -/
section L78
variable {C M : Me} {w : Nat}
theorem Q_kind (R : Rl C M w) (x : Int32) : ∃ o, f_rc_kind C x = some o ∧ f_m_kind M x = some o := by
  obtain ⟨⟨sc, cnt, h⟩, -, -⟩ := R
  have q := q_kind (C := C) (M := M) h x
  rw [sN_e, sV_e] at q
  exact q
theorem Q_stationOf (R : Rl C M w) (x : Int32) : ∃ o, f_rc_stationOf C x = some o ∧ f_m_stationOf M x = some o := by
  obtain ⟨⟨sc, cnt, h⟩, -, -⟩ := R
  have q := q_stationOf (C := C) (M := M) h x
  rw [sN_e, sV_e] at q
  exact q
theorem Q_entryRate (R : Rl C M w) (x y : Int32) : ∃ o, f_rc_entryRate C x y = some o ∧ f_m_entryRate M x y = some o := by
  obtain ⟨⟨sc, cnt, h⟩, -, -⟩ := R
  have q := q_entryRate (C := C) (M := M) h x y
  rw [sN_e, sV_e] at q
  exact q
theorem Q_entryTries (R : Rl C M w) (x y : Int32) : ∃ o, f_rc_entryTries C x y = some o ∧ f_m_entryTries M x y = some o := by
  obtain ⟨⟨sc, cnt, h⟩, -, -⟩ := R
  have q := q_entryTries (C := C) (M := M) h x y
  rw [sN_e, sV_e] at q
  exact q
theorem Q_tag (R : Rl C M w) (x : Int32) : ∃ o, f_rc_tag C x = some o ∧ f_m_tag M x = some o := by
  obtain ⟨⟨sc, cnt, h⟩, -, -⟩ := R
  have q := q_tag (C := C) (M := M) h x
  rw [sN_e, sV_e] at q
  exact q
theorem Q_estimate (R : Rl C M w) (x y : Int32) : ∃ o, f_rc_estimate C x y = some o ∧ f_m_estimate M x y = some o := by
  obtain ⟨⟨sc, cnt, h⟩, -, -⟩ := R
  have q := q_estimate (C := C) (M := M) h x y
  rw [sN_e, sV_e] at q
  exact q
theorem Q_triesOf (R : Rl C M w) (x y : Int32) : ∃ o, f_rc_triesOf C x y = some o ∧ f_m_triesOf M x y = some o := by
  obtain ⟨⟨sc, cnt, h⟩, -, -⟩ := R
  have q := q_triesOf (C := C) (M := M) h x y
  rw [sN_e, sV_e] at q
  exact q
theorem Q_successesOf (R : Rl C M w) (x y : Int32) : ∃ o, f_rc_successesOf C x y = some o ∧ f_m_successesOf M x y = some o := by
  obtain ⟨⟨sc, cnt, h⟩, -, -⟩ := R
  have q := q_successesOf (C := C) (M := M) h x y
  rw [sN_e, sV_e] at q
  exact q
theorem Q_airTime (R : Rl C M w) (x y : Int32) : ∃ o, f_rc_airTime C x y = some o ∧ f_m_airTime M x y = some o := by
  obtain ⟨⟨sc, cnt, h⟩, -, -⟩ := R
  have q := q_airTime (C := C) (M := M) h x y
  rw [sN_e, sV_e] at q
  exact q
theorem Q_throughput (R : Rl C M w) (x y t : Int32) : ∃ o, f_rc_throughput C x y t = some o ∧ f_m_throughput M x y t = some o := by
  obtain ⟨⟨sc, cnt, h⟩, -, -⟩ := R
  have q := q_throughput (C := C) (M := M) h x y t
  rw [sN_e, sV_e] at q
  exact q
theorem Q_role (R : Rl C M w) (x y : Int32) : ∃ o, f_rc_role C x y = some o ∧ f_m_role M x y = some o := by
  obtain ⟨⟨sc, cnt, h⟩, -, -⟩ := R
  have q := q_role (C := C) (M := M) h x y
  rw [sN_e, sV_e] at q
  exact q
theorem Q_refusal (R : Rl C M w) (x y : Int32) : ∃ o, f_rc_refusal C x y = some o ∧ f_m_refusal M x y = some o := by
  obtain ⟨⟨sc, cnt, h⟩, -, -⟩ := R
  have q := q_refusal (C := C) (M := M) h x y
  rw [sN_e, sV_e] at q
  exact q
theorem Q_chains (R : Rl C M w) (x : Int32) : ∃ o, f_rc_chains C x = some o ∧ f_m_chains M x = some o := by
  obtain ⟨⟨sc, cnt, h⟩, -, -⟩ := R
  have q := q_chains (C := C) (M := M) h x
  rw [sN_e, sV_e] at q
  exact q
theorem Q_sampled (R : Rl C M w) (x : Int32) : ∃ o, f_rc_sampled C x = some o ∧ f_m_sampled M x = some o := by
  obtain ⟨⟨sc, cnt, h⟩, -, -⟩ := R
  have q := q_sampled (C := C) (M := M) h x
  rw [sN_e, sV_e] at q
  exact q
theorem Q_delivered (R : Rl C M w) (x : Int32) : ∃ o, f_rc_delivered C x = some o ∧ f_m_delivered M x = some o := by
  obtain ⟨⟨sc, cnt, h⟩, -, -⟩ := R
  have q := q_delivered (C := C) (M := M) h x
  rw [sN_e, sV_e] at q
  exact q
theorem Q_lost (R : Rl C M w) (x : Int32) : ∃ o, f_rc_lost C x = some o ∧ f_m_lost M x = some o := by
  obtain ⟨⟨sc, cnt, h⟩, -, -⟩ := R
  have q := q_lost (C := C) (M := M) h x
  rw [sN_e, sV_e] at q
  exact q
theorem Q_queued (R : Rl C M w) (x : Int32) : ∃ o, f_rc_queued C x = some o ∧ f_m_queued M x = some o := by
  obtain ⟨⟨sc, cnt, h⟩, -, -⟩ := R
  have q := q_queued (C := C) (M := M) h x
  rw [sN_e, sV_e] at q
  exact q
theorem Q_inFallback (R : Rl C M w) (x : Int32) : ∃ o, f_rc_inFallback C x = some o ∧ f_m_inFallback M x = some o := by
  obtain ⟨⟨sc, cnt, h⟩, -, -⟩ := R
  have q := q_inFallback (C := C) (M := M) h x
  rw [sN_e, sV_e] at q
  exact q
theorem Q_deficit (R : Rl C M w) (x : Int32) : ∃ o, f_rc_deficit C x = some o ∧ f_m_deficit M x = some o := by
  obtain ⟨⟨sc, cnt, h⟩, -, -⟩ := R
  have q := q_deficit (C := C) (M := M) h x
  rw [sN_e, sV_e] at q
  exact q
theorem Q_time (R : Rl C M w) : ∃ o, f_rc_time C = some o ∧ f_m_time M = some o := by
  obtain ⟨⟨sc, cnt, h⟩, -, -⟩ := R
  have q := q_time (C := C) (M := M) h
  rw [sN_e, sV_e] at q
  exact q
theorem Q_events (R : Rl C M w) : ∃ o, f_rc_events C = some o ∧ f_m_events M = some o := by
  obtain ⟨⟨sc, cnt, h⟩, -, -⟩ := R
  have q := q_events (C := C) (M := M) h
  rw [sN_e, sV_e] at q
  exact q
theorem Q_deliveryChance (R : Rl C M w) (x : Int32) : ∃ o, f_rc_deliveryChance C x = some o ∧ f_m_deliveryChance M x = some o := by
  obtain ⟨⟨sc, cnt, h⟩, -, -⟩ := R
  have q := q_deliveryChance (C := C) (M := M) h x
  rw [sN_e, sV_e] at q
  exact q
theorem Q_expectedTime (R : Rl C M w) (x : Int32) : ∃ o, f_rc_expectedTime C x = some o ∧ f_m_expectedTime M x = some o := by
  obtain ⟨⟨sc, cnt, h⟩, -, -⟩ := R
  have q := q_expectedTime (C := C) (M := M) h x
  rw [sN_e, sV_e] at q
  exact q
theorem Q_mostUsed (R : Rl C M w) (x : Int32) : ∃ o, f_rc_mostUsed C x = some o ∧ f_m_mostUsed M x = some o := by
  obtain ⟨⟨sc, cnt, h⟩, -, -⟩ := R
  have q := q_mostUsed (C := C) (M := M) h x
  rw [sN_e, sV_e] at q
  exact q
theorem Q_oracle (R : Rl C M w) (x y : Int32) : ∃ o, f_rc_oracle C x y = some o ∧ f_m_oracle M x y = some o := by
  obtain ⟨⟨sc, cnt, h⟩, -, -⟩ := R
  have q := q_oracle (C := C) (M := M) h x y
  rw [sN_e, sV_e] at q
  exact q
theorem Q_rateOfMode (R : Rl C M w) (x y : Int32) : ∃ o, f_rc_rateOfMode C x y = some o ∧ f_m_rateOfMode M x y = some o := by
  obtain ⟨⟨sc, cnt, h⟩, -, -⟩ := R
  have q := q_rateOfMode (C := C) (M := M) h x y
  rw [sN_e, sV_e] at q
  exact q
theorem Q_bestOfMode (R : Rl C M w) (x y : Int32) : ∃ o, f_rc_bestOfMode C x y = some o ∧ f_m_bestOfMode M x y = some o := by
  obtain ⟨⟨sc, cnt, h⟩, -, -⟩ := R
  have q := q_bestOfMode (C := C) (M := M) h x y
  rw [sN_e, sV_e] at q
  exact q
theorem Q_digest (R : Rl C M w) : ∃ o, f_rc_digest C = some o ∧ f_m_digest M = some o := by
  obtain ⟨⟨sc, cnt, h⟩, -, -⟩ := R
  have q := q_digest (C := C) (M := M) h
  rw [sN_e, sV_e] at q
  exact q
theorem Q_event (R : Rl C M w) (hw : w < 1073741824) (k : Nat) (hk : k < 4) (x : Int32) : ∃ o, f_lo_look C 0 (nI k) x = some o ∧ f_m_event M x (nI k) = some o := by
  obtain ⟨⟨sc, cnt, h⟩, -, -⟩ := R
  have q := q_event (C := C) (M := M) h hw k hk x
  rw [sN_e, sV_e] at q
  exact q
theorem Q_eventKind (R : Rl C M w) (hw : w < 1073741824) (x : Int32) : ∃ o, f_rc_eventKind C x = some o ∧ f_m_eventKind M x = some o := by
  obtain ⟨o, a, b⟩ := Q_event R hw 0 (by omega) x
  unfold f_rc_eventKind f_m_eventKind
  exact ⟨o, bs a rfl, bs b rfl⟩
theorem Q_eventStation (R : Rl C M w) (hw : w < 1073741824) (x : Int32) : ∃ o, f_rc_eventStation C x = some o ∧ f_m_eventStation M x = some o := by
  obtain ⟨o, a, b⟩ := Q_event R hw 1 (by omega) x
  unfold f_rc_eventStation f_m_eventStation
  exact ⟨o, bs a rfl, bs b rfl⟩
theorem Q_eventRate (R : Rl C M w) (hw : w < 1073741824) (x : Int32) : ∃ o, f_rc_eventRate C x = some o ∧ f_m_eventRate M x = some o := by
  obtain ⟨o, a, b⟩ := Q_event R hw 2 (by omega) x
  unfold f_rc_eventRate f_m_eventRate
  exact ⟨o, bs a rfl, bs b rfl⟩
theorem Q_eventTime (R : Rl C M w) (hw : w < 1073741824) (x : Int32) : ∃ o, f_rc_eventTime C x = some o ∧ f_m_eventTime M x = some o := by
  obtain ⟨o, a, b⟩ := Q_event R hw 3 (by omega) x
  unfold f_rc_eventTime f_m_eventTime
  exact ⟨o, bs a rfl, bs b rfl⟩
end L78
