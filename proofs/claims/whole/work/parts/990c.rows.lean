/-! long methods looked at in pieces -/
theorem c12_out_rows_0 : (((aMc m_c12_out).drop (0 * 40)).take 40).all (fEok aMs m_c12_out) = true := by decide +kernel
theorem c12_out_rows_1 : (((aMc m_c12_out).drop (1 * 40)).take 40).all (fEok aMs m_c12_out) = true := by decide +kernel
theorem c12_out_rows_2 : (((aMc m_c12_out).drop (2 * 40)).take 40).all (fEok aMs m_c12_out) = true := by decide +kernel
theorem c12_out_rows_3 : (((aMc m_c12_out).drop (3 * 40)).take 40).all (fEok aMs m_c12_out) = true := by decide +kernel
theorem c12_out_rows_4 : (((aMc m_c12_out).drop (4 * 40)).take 40).all (fEok aMs m_c12_out) = true := by decide +kernel
theorem c12_out_rows_5 : (((aMc m_c12_out).drop (5 * 40)).take 40).all (fEok aMs m_c12_out) = true := by decide +kernel
theorem c12_out_rows : (aMc m_c12_out).all (fEok aMs m_c12_out) = true := all_chunk _ 40 6 _ (by decide +kernel) (fun i hi => by
  match i, hi with
  | 0, _ => exact c12_out_rows_0
  | 1, _ => exact c12_out_rows_1
  | 2, _ => exact c12_out_rows_2
  | 3, _ => exact c12_out_rows_3
  | 4, _ => exact c12_out_rows_4
  | 5, _ => exact c12_out_rows_5
  | k + 6, hi => exact absurd hi (by omega))
theorem c12_out_words : (aMw m_c12_out).all (fun w => goodWord w) = true := by decide +kernel
theorem c12_out_mok : aMok aMs m_c12_out = true := by
  refine fMok_ok ?_
  unfold fMok
  simp only [Bool.and_eq_true]
  exact ⟨⟨⟨c12_out_rows, by decide +kernel⟩, by decide +kernel⟩, by simpa using c12_out_words⟩
theorem c12_token_rows_0 : (((aMc m_c12_token).drop (0 * 40)).take 40).all (fEok aMs m_c12_token) = true := by decide +kernel
theorem c12_token_rows_1 : (((aMc m_c12_token).drop (1 * 40)).take 40).all (fEok aMs m_c12_token) = true := by decide +kernel
theorem c12_token_rows_2 : (((aMc m_c12_token).drop (2 * 40)).take 40).all (fEok aMs m_c12_token) = true := by decide +kernel
theorem c12_token_rows_3 : (((aMc m_c12_token).drop (3 * 40)).take 40).all (fEok aMs m_c12_token) = true := by decide +kernel
theorem c12_token_rows_4 : (((aMc m_c12_token).drop (4 * 40)).take 40).all (fEok aMs m_c12_token) = true := by decide +kernel
theorem c12_token_rows : (aMc m_c12_token).all (fEok aMs m_c12_token) = true := all_chunk _ 40 5 _ (by decide +kernel) (fun i hi => by
  match i, hi with
  | 0, _ => exact c12_token_rows_0
  | 1, _ => exact c12_token_rows_1
  | 2, _ => exact c12_token_rows_2
  | 3, _ => exact c12_token_rows_3
  | 4, _ => exact c12_token_rows_4
  | k + 5, hi => exact absurd hi (by omega))
theorem c12_token_words : (aMw m_c12_token).all (fun w => goodWord w) = true := by decide +kernel
theorem c12_token_mok : aMok aMs m_c12_token = true := by
  refine fMok_ok ?_
  unfold fMok
  simp only [Bool.and_eq_true]
  exact ⟨⟨⟨c12_token_rows, by decide +kernel⟩, by decide +kernel⟩, by simpa using c12_token_words⟩
theorem c12_floatLine_rows_0 : (((aMc m_c12_floatLine).drop (0 * 40)).take 40).all (fEok aMs m_c12_floatLine) = true := by decide +kernel
theorem c12_floatLine_rows_1 : (((aMc m_c12_floatLine).drop (1 * 40)).take 40).all (fEok aMs m_c12_floatLine) = true := by decide +kernel
theorem c12_floatLine_rows_2 : (((aMc m_c12_floatLine).drop (2 * 40)).take 40).all (fEok aMs m_c12_floatLine) = true := by decide +kernel
theorem c12_floatLine_rows_3 : (((aMc m_c12_floatLine).drop (3 * 40)).take 40).all (fEok aMs m_c12_floatLine) = true := by decide +kernel
theorem c12_floatLine_rows_4 : (((aMc m_c12_floatLine).drop (4 * 40)).take 40).all (fEok aMs m_c12_floatLine) = true := by decide +kernel
theorem c12_floatLine_rows : (aMc m_c12_floatLine).all (fEok aMs m_c12_floatLine) = true := all_chunk _ 40 5 _ (by decide +kernel) (fun i hi => by
  match i, hi with
  | 0, _ => exact c12_floatLine_rows_0
  | 1, _ => exact c12_floatLine_rows_1
  | 2, _ => exact c12_floatLine_rows_2
  | 3, _ => exact c12_floatLine_rows_3
  | 4, _ => exact c12_floatLine_rows_4
  | k + 5, hi => exact absurd hi (by omega))
theorem c12_floatLine_words : (aMw m_c12_floatLine).all (fun w => goodWord w) = true := by decide +kernel
theorem c12_floatLine_mok : aMok aMs m_c12_floatLine = true := by
  refine fMok_ok ?_
  unfold fMok
  simp only [Bool.and_eq_true]
  exact ⟨⟨⟨c12_floatLine_rows, by decide +kernel⟩, by decide +kernel⟩, by simpa using c12_floatLine_words⟩
theorem c12_keepText_rows_0 : (((aMc m_c12_keepText).drop (0 * 40)).take 40).all (fEok aMs m_c12_keepText) = true := by decide +kernel
theorem c12_keepText_rows_1 : (((aMc m_c12_keepText).drop (1 * 40)).take 40).all (fEok aMs m_c12_keepText) = true := by decide +kernel
theorem c12_keepText_rows_2 : (((aMc m_c12_keepText).drop (2 * 40)).take 40).all (fEok aMs m_c12_keepText) = true := by decide +kernel
theorem c12_keepText_rows_3 : (((aMc m_c12_keepText).drop (3 * 40)).take 40).all (fEok aMs m_c12_keepText) = true := by decide +kernel
theorem c12_keepText_rows : (aMc m_c12_keepText).all (fEok aMs m_c12_keepText) = true := all_chunk _ 40 4 _ (by decide +kernel) (fun i hi => by
  match i, hi with
  | 0, _ => exact c12_keepText_rows_0
  | 1, _ => exact c12_keepText_rows_1
  | 2, _ => exact c12_keepText_rows_2
  | 3, _ => exact c12_keepText_rows_3
  | k + 4, hi => exact absurd hi (by omega))
theorem c12_keepText_words : (aMw m_c12_keepText).all (fun w => goodWord w) = true := by decide +kernel
theorem c12_keepText_mok : aMok aMs m_c12_keepText = true := by
  refine fMok_ok ?_
  unfold fMok
  simp only [Bool.and_eq_true]
  exact ⟨⟨⟨c12_keepText_rows, by decide +kernel⟩, by decide +kernel⟩, by simpa using c12_keepText_words⟩
theorem c12_townLine_rows_0 : (((aMc m_c12_townLine).drop (0 * 40)).take 40).all (fEok aMs m_c12_townLine) = true := by decide +kernel
theorem c12_townLine_rows_1 : (((aMc m_c12_townLine).drop (1 * 40)).take 40).all (fEok aMs m_c12_townLine) = true := by decide +kernel
theorem c12_townLine_rows_2 : (((aMc m_c12_townLine).drop (2 * 40)).take 40).all (fEok aMs m_c12_townLine) = true := by decide +kernel
theorem c12_townLine_rows_3 : (((aMc m_c12_townLine).drop (3 * 40)).take 40).all (fEok aMs m_c12_townLine) = true := by decide +kernel
theorem c12_townLine_rows : (aMc m_c12_townLine).all (fEok aMs m_c12_townLine) = true := all_chunk _ 40 4 _ (by decide +kernel) (fun i hi => by
  match i, hi with
  | 0, _ => exact c12_townLine_rows_0
  | 1, _ => exact c12_townLine_rows_1
  | 2, _ => exact c12_townLine_rows_2
  | 3, _ => exact c12_townLine_rows_3
  | k + 4, hi => exact absurd hi (by omega))
theorem c12_townLine_words : (aMw m_c12_townLine).all (fun w => goodWord w) = true := by decide +kernel
theorem c12_townLine_mok : aMok aMs m_c12_townLine = true := by
  refine fMok_ok ?_
  unfold fMok
  simp only [Bool.and_eq_true]
  exact ⟨⟨⟨c12_townLine_rows, by decide +kernel⟩, by decide +kernel⟩, by simpa using c12_townLine_words⟩
