/-! long methods looked at in pieces -/
theorem c12_init_rows_0 : (((aMc m_c12_init).drop (0 * 30)).take 30).all (fEok aMs m_c12_init) = true := by decide +kernel
theorem c12_init_rows_1 : (((aMc m_c12_init).drop (1 * 30)).take 30).all (fEok aMs m_c12_init) = true := by decide +kernel
theorem c12_init_rows_2 : (((aMc m_c12_init).drop (2 * 30)).take 30).all (fEok aMs m_c12_init) = true := by decide +kernel
theorem c12_init_rows_3 : (((aMc m_c12_init).drop (3 * 30)).take 30).all (fEok aMs m_c12_init) = true := by decide +kernel
theorem c12_init_rows_4 : (((aMc m_c12_init).drop (4 * 30)).take 30).all (fEok aMs m_c12_init) = true := by decide +kernel
theorem c12_init_rows_5 : (((aMc m_c12_init).drop (5 * 30)).take 30).all (fEok aMs m_c12_init) = true := by decide +kernel
theorem c12_init_rows_6 : (((aMc m_c12_init).drop (6 * 30)).take 30).all (fEok aMs m_c12_init) = true := by decide +kernel
theorem c12_init_rows_7 : (((aMc m_c12_init).drop (7 * 30)).take 30).all (fEok aMs m_c12_init) = true := by decide +kernel
theorem c12_init_rows_8 : (((aMc m_c12_init).drop (8 * 30)).take 30).all (fEok aMs m_c12_init) = true := by decide +kernel
theorem c12_init_rows_9 : (((aMc m_c12_init).drop (9 * 30)).take 30).all (fEok aMs m_c12_init) = true := by decide +kernel
theorem c12_init_rows_10 : (((aMc m_c12_init).drop (10 * 30)).take 30).all (fEok aMs m_c12_init) = true := by decide +kernel
theorem c12_init_rows_11 : (((aMc m_c12_init).drop (11 * 30)).take 30).all (fEok aMs m_c12_init) = true := by decide +kernel
theorem c12_init_rows_12 : (((aMc m_c12_init).drop (12 * 30)).take 30).all (fEok aMs m_c12_init) = true := by decide +kernel
theorem c12_init_rows_13 : (((aMc m_c12_init).drop (13 * 30)).take 30).all (fEok aMs m_c12_init) = true := by decide +kernel
theorem c12_init_rows_14 : (((aMc m_c12_init).drop (14 * 30)).take 30).all (fEok aMs m_c12_init) = true := by decide +kernel
theorem c12_init_rows_15 : (((aMc m_c12_init).drop (15 * 30)).take 30).all (fEok aMs m_c12_init) = true := by decide +kernel
theorem c12_init_rows_16 : (((aMc m_c12_init).drop (16 * 30)).take 30).all (fEok aMs m_c12_init) = true := by decide +kernel
theorem c12_init_rows_17 : (((aMc m_c12_init).drop (17 * 30)).take 30).all (fEok aMs m_c12_init) = true := by decide +kernel
theorem c12_init_rows : (aMc m_c12_init).all (fEok aMs m_c12_init) = true := all_chunk _ 30 18 _ (by decide +kernel) (fun i hi => by
  match i, hi with
  | 0, _ => exact c12_init_rows_0
  | 1, _ => exact c12_init_rows_1
  | 2, _ => exact c12_init_rows_2
  | 3, _ => exact c12_init_rows_3
  | 4, _ => exact c12_init_rows_4
  | 5, _ => exact c12_init_rows_5
  | 6, _ => exact c12_init_rows_6
  | 7, _ => exact c12_init_rows_7
  | 8, _ => exact c12_init_rows_8
  | 9, _ => exact c12_init_rows_9
  | 10, _ => exact c12_init_rows_10
  | 11, _ => exact c12_init_rows_11
  | 12, _ => exact c12_init_rows_12
  | 13, _ => exact c12_init_rows_13
  | 14, _ => exact c12_init_rows_14
  | 15, _ => exact c12_init_rows_15
  | 16, _ => exact c12_init_rows_16
  | 17, _ => exact c12_init_rows_17
  | k + 18, hi => exact absurd hi (by omega))
theorem c12_init_words : (aMw m_c12_init).all (fun w => goodWord w) = true := by decide +kernel
theorem c12_init_mok : aMok aMs m_c12_init = true := by
  refine fMok_ok ?_
  unfold fMok
  simp only [Bool.and_eq_true]
  exact ⟨⟨⟨c12_init_rows, by decide +kernel⟩, by decide +kernel⟩, by simpa using c12_init_words⟩
