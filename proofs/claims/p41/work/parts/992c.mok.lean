/-! the law's rows, twenty at a time -/
theorem law_rows_0 : (((aMc m_law).drop (0 * 20)).take 20).all (fEok aMs m_law) = true := by decide +kernel
theorem law_rows_1 : (((aMc m_law).drop (1 * 20)).take 20).all (fEok aMs m_law) = true := by decide +kernel
theorem law_rows_2 : (((aMc m_law).drop (2 * 20)).take 20).all (fEok aMs m_law) = true := by decide +kernel
theorem law_rows_3 : (((aMc m_law).drop (3 * 20)).take 20).all (fEok aMs m_law) = true := by decide +kernel
theorem law_rows_4 : (((aMc m_law).drop (4 * 20)).take 20).all (fEok aMs m_law) = true := by decide +kernel
theorem law_rows_5 : (((aMc m_law).drop (5 * 20)).take 20).all (fEok aMs m_law) = true := by decide +kernel
theorem law_rows_6 : (((aMc m_law).drop (6 * 20)).take 20).all (fEok aMs m_law) = true := by decide +kernel
theorem law_rows_7 : (((aMc m_law).drop (7 * 20)).take 20).all (fEok aMs m_law) = true := by decide +kernel
theorem law_rows_8 : (((aMc m_law).drop (8 * 20)).take 20).all (fEok aMs m_law) = true := by decide +kernel
theorem law_rows_9 : (((aMc m_law).drop (9 * 20)).take 20).all (fEok aMs m_law) = true := by decide +kernel
theorem law_rows_10 : (((aMc m_law).drop (10 * 20)).take 20).all (fEok aMs m_law) = true := by decide +kernel
theorem law_rows_11 : (((aMc m_law).drop (11 * 20)).take 20).all (fEok aMs m_law) = true := by decide +kernel
theorem law_rows_12 : (((aMc m_law).drop (12 * 20)).take 20).all (fEok aMs m_law) = true := by decide +kernel
theorem law_rows_13 : (((aMc m_law).drop (13 * 20)).take 20).all (fEok aMs m_law) = true := by decide +kernel
theorem law_rows_14 : (((aMc m_law).drop (14 * 20)).take 20).all (fEok aMs m_law) = true := by decide +kernel
theorem law_rows_15 : (((aMc m_law).drop (15 * 20)).take 20).all (fEok aMs m_law) = true := by decide +kernel
theorem law_rows_16 : (((aMc m_law).drop (16 * 20)).take 20).all (fEok aMs m_law) = true := by decide +kernel
theorem law_rows_17 : (((aMc m_law).drop (17 * 20)).take 20).all (fEok aMs m_law) = true := by decide +kernel
theorem law_rows_18 : (((aMc m_law).drop (18 * 20)).take 20).all (fEok aMs m_law) = true := by decide +kernel
theorem law_rows_19 : (((aMc m_law).drop (19 * 20)).take 20).all (fEok aMs m_law) = true := by decide +kernel
theorem law_rows_20 : (((aMc m_law).drop (20 * 20)).take 20).all (fEok aMs m_law) = true := by decide +kernel
theorem law_rows_21 : (((aMc m_law).drop (21 * 20)).take 20).all (fEok aMs m_law) = true := by decide +kernel
theorem law_rows_22 : (((aMc m_law).drop (22 * 20)).take 20).all (fEok aMs m_law) = true := by decide +kernel
theorem law_rows_23 : (((aMc m_law).drop (23 * 20)).take 20).all (fEok aMs m_law) = true := by decide +kernel
theorem law_rows_24 : (((aMc m_law).drop (24 * 20)).take 20).all (fEok aMs m_law) = true := by decide +kernel
theorem law_rows_25 : (((aMc m_law).drop (25 * 20)).take 20).all (fEok aMs m_law) = true := by decide +kernel
theorem law_rows_26 : (((aMc m_law).drop (26 * 20)).take 20).all (fEok aMs m_law) = true := by decide +kernel
theorem law_rows_27 : (((aMc m_law).drop (27 * 20)).take 20).all (fEok aMs m_law) = true := by decide +kernel
theorem law_rows_28 : (((aMc m_law).drop (28 * 20)).take 20).all (fEok aMs m_law) = true := by decide +kernel
theorem law_rows_29 : (((aMc m_law).drop (29 * 20)).take 20).all (fEok aMs m_law) = true := by decide +kernel
theorem law_rows_30 : (((aMc m_law).drop (30 * 20)).take 20).all (fEok aMs m_law) = true := by decide +kernel
theorem law_rows_31 : (((aMc m_law).drop (31 * 20)).take 20).all (fEok aMs m_law) = true := by decide +kernel
theorem law_rows_32 : (((aMc m_law).drop (32 * 20)).take 20).all (fEok aMs m_law) = true := by decide +kernel
theorem law_rows_33 : (((aMc m_law).drop (33 * 20)).take 20).all (fEok aMs m_law) = true := by decide +kernel
theorem law_rows_34 : (((aMc m_law).drop (34 * 20)).take 20).all (fEok aMs m_law) = true := by decide +kernel
theorem law_rows_35 : (((aMc m_law).drop (35 * 20)).take 20).all (fEok aMs m_law) = true := by decide +kernel
theorem law_rows_36 : (((aMc m_law).drop (36 * 20)).take 20).all (fEok aMs m_law) = true := by decide +kernel
theorem law_rows_37 : (((aMc m_law).drop (37 * 20)).take 20).all (fEok aMs m_law) = true := by decide +kernel
theorem law_rows_38 : (((aMc m_law).drop (38 * 20)).take 20).all (fEok aMs m_law) = true := by decide +kernel
theorem law_rows_39 : (((aMc m_law).drop (39 * 20)).take 20).all (fEok aMs m_law) = true := by decide +kernel
theorem law_rows_40 : (((aMc m_law).drop (40 * 20)).take 20).all (fEok aMs m_law) = true := by decide +kernel
theorem law_rows : (aMc m_law).all (fEok aMs m_law) = true := all_chunk _ 20 41 _ (by decide +kernel) (fun i hi => by
  match i, hi with
  | 0, _ => exact law_rows_0
  | 1, _ => exact law_rows_1
  | 2, _ => exact law_rows_2
  | 3, _ => exact law_rows_3
  | 4, _ => exact law_rows_4
  | 5, _ => exact law_rows_5
  | 6, _ => exact law_rows_6
  | 7, _ => exact law_rows_7
  | 8, _ => exact law_rows_8
  | 9, _ => exact law_rows_9
  | 10, _ => exact law_rows_10
  | 11, _ => exact law_rows_11
  | 12, _ => exact law_rows_12
  | 13, _ => exact law_rows_13
  | 14, _ => exact law_rows_14
  | 15, _ => exact law_rows_15
  | 16, _ => exact law_rows_16
  | 17, _ => exact law_rows_17
  | 18, _ => exact law_rows_18
  | 19, _ => exact law_rows_19
  | 20, _ => exact law_rows_20
  | 21, _ => exact law_rows_21
  | 22, _ => exact law_rows_22
  | 23, _ => exact law_rows_23
  | 24, _ => exact law_rows_24
  | 25, _ => exact law_rows_25
  | 26, _ => exact law_rows_26
  | 27, _ => exact law_rows_27
  | 28, _ => exact law_rows_28
  | 29, _ => exact law_rows_29
  | 30, _ => exact law_rows_30
  | 31, _ => exact law_rows_31
  | 32, _ => exact law_rows_32
  | 33, _ => exact law_rows_33
  | 34, _ => exact law_rows_34
  | 35, _ => exact law_rows_35
  | 36, _ => exact law_rows_36
  | 37, _ => exact law_rows_37
  | 38, _ => exact law_rows_38
  | 39, _ => exact law_rows_39
  | 40, _ => exact law_rows_40
  | k + 41, hi => exact absurd hi (by omega))
theorem law_words : (aMw m_law).all (fun w => goodWord w) = true := by decide +kernel
theorem law_mok : aMok aMs m_law = true := by
  refine fMok_ok ?_
  unfold fMok
  simp only [Bool.and_eq_true]
  exact ⟨⟨⟨law_rows, by decide +kernel⟩, by decide +kernel⟩, by simpa using law_words⟩
