theorem law_rows_34 : (((aMc m_law).drop (34 * 20)).take 20).all (fEok aMs m_law) = true := by decide +kernel
theorem law_rows_35 : (((aMc m_law).drop (35 * 20)).take 20).all (fEok aMs m_law) = true := by decide +kernel
theorem law_rows_36 : (((aMc m_law).drop (36 * 20)).take 20).all (fEok aMs m_law) = true := by decide +kernel
theorem law_rows_37 : (((aMc m_law).drop (37 * 20)).take 20).all (fEok aMs m_law) = true := by decide +kernel
theorem law_rows_38 : (((aMc m_law).drop (38 * 20)).take 20).all (fEok aMs m_law) = true := by decide +kernel
theorem law_rows_39 : (((aMc m_law).drop (39 * 20)).take 20).all (fEok aMs m_law) = true := by decide +kernel
theorem law_rows_40 : (((aMc m_law).drop (40 * 20)).take 20).all (fEok aMs m_law) = true := by decide +kernel
theorem law_rows_41 : (((aMc m_law).drop (41 * 20)).take 20).all (fEok aMs m_law) = true := by decide +kernel
theorem law_rows_42 : (((aMc m_law).drop (42 * 20)).take 20).all (fEok aMs m_law) = true := by decide +kernel
theorem law_rows_43 : (((aMc m_law).drop (43 * 20)).take 20).all (fEok aMs m_law) = true := by decide +kernel
theorem law_rows_44 : (((aMc m_law).drop (44 * 20)).take 20).all (fEok aMs m_law) = true := by decide +kernel
theorem law_rows_45 : (((aMc m_law).drop (45 * 20)).take 20).all (fEok aMs m_law) = true := by decide +kernel
theorem law_rows_46 : (((aMc m_law).drop (46 * 20)).take 20).all (fEok aMs m_law) = true := by decide +kernel
theorem law_rows_47 : (((aMc m_law).drop (47 * 20)).take 20).all (fEok aMs m_law) = true := by decide +kernel
theorem law_rows_48 : (((aMc m_law).drop (48 * 20)).take 20).all (fEok aMs m_law) = true := by decide +kernel
theorem law_rows_49 : (((aMc m_law).drop (49 * 20)).take 20).all (fEok aMs m_law) = true := by decide +kernel
theorem law_rows_50 : (((aMc m_law).drop (50 * 20)).take 20).all (fEok aMs m_law) = true := by decide +kernel
theorem law_rows : (aMc m_law).all (fEok aMs m_law) = true := all_chunk _ 20 51 _ (by decide +kernel) (fun i hi => by
  match i, hi with
  | 0, _ => exact law_rows_0
  | 1, _ => exact law_rows_1
  | 2, _ => exact law_rows_2
  | 3, _ => exact law_rows_3
  | 4, _ => exact law_rows_4
  | 5, _ => exact law_rows_5
  | 6, _ => exact law_rows_6
  | 7, _ => exact law_rows_7
  | 8, _ => exact law_rows_8
  | 9, _ => exact law_rows_9
  | 10, _ => exact law_rows_10
  | 11, _ => exact law_rows_11
  | 12, _ => exact law_rows_12
  | 13, _ => exact law_rows_13
  | 14, _ => exact law_rows_14
  | 15, _ => exact law_rows_15
  | 16, _ => exact law_rows_16
  | 17, _ => exact law_rows_17
  | 18, _ => exact law_rows_18
  | 19, _ => exact law_rows_19
  | 20, _ => exact law_rows_20
  | 21, _ => exact law_rows_21
  | 22, _ => exact law_rows_22
  | 23, _ => exact law_rows_23
  | 24, _ => exact law_rows_24
  | 25, _ => exact law_rows_25
  | 26, _ => exact law_rows_26
  | 27, _ => exact law_rows_27
  | 28, _ => exact law_rows_28
  | 29, _ => exact law_rows_29
  | 30, _ => exact law_rows_30
  | 31, _ => exact law_rows_31
  | 32, _ => exact law_rows_32
  | 33, _ => exact law_rows_33
  | 34, _ => exact law_rows_34
  | 35, _ => exact law_rows_35
  | 36, _ => exact law_rows_36
  | 37, _ => exact law_rows_37
  | 38, _ => exact law_rows_38
  | 39, _ => exact law_rows_39
  | 40, _ => exact law_rows_40
  | 41, _ => exact law_rows_41
  | 42, _ => exact law_rows_42
  | 43, _ => exact law_rows_43
  | 44, _ => exact law_rows_44
  | 45, _ => exact law_rows_45
  | 46, _ => exact law_rows_46
  | 47, _ => exact law_rows_47
  | 48, _ => exact law_rows_48
  | 49, _ => exact law_rows_49
  | 50, _ => exact law_rows_50
  | k + 51, hi => exact absurd hi (by omega))
theorem law_words : (aMw m_law).all (fun w => goodWord w) = true := by decide +kernel
theorem law_mok : aMok aMs m_law = true := by
  refine fMok_ok ?_
  unfold fMok
  simp only [Bool.and_eq_true]
  exact ⟨⟨⟨law_rows, by decide +kernel⟩, by decide +kernel⟩, by simpa using law_words⟩
