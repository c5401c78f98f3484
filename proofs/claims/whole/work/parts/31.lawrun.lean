def f_Law_law_18 (Q : Int → gh_M → Prop) (K18 : Int → gh_M → Prop) (v3 : Int) (m : gh_M) : Prop := gh_i ((m 0 3) - 6) ∧ ((v3 ≤ ((m 0 3) - 6) → 0 ≤ v3 ∧ v3 < m 0 3 ∧ ∃ J1027 : gh_M → Prop, (∀ (m : gh_M), J1027 m → gh_i (v3 + 6) ∧ K18 (v3 + 6) m) ∧ (((gh_iand_f (m 1 v3) 31) = 0 → gh_i (v3 + 1) ∧ 0 ≤ v3 + 1 ∧ (v3 + 1) < m 0 3 ∧ gh_i (v3 + 2) ∧ 0 ≤ v3 + 2 ∧ (v3 + 2) < m 0 3 ∧ gh_i (v3 + 3) ∧ 0 ≤ v3 + 3 ∧ (v3 + 3) < m 0 3 ∧ gh_i (v3 + 4) ∧ 0 ≤ v3 + 4 ∧ (v3 + 4) < m 0 3 ∧ gh_i (v3 + 5) ∧ 0 ≤ v3 + 5 ∧ (v3 + 5) < m 0 3 ∧ w_House_type (m 1 (v3 + 1)) (m 1 (v3 + 2)) (m 1 (v3 + 3)) (m 1 (v3 + 4)) (m 1 (v3 + 5)) m (fun r4636 m4637 => gh_i (v3 + 1) ∧ 0 ≤ v3 + 1 ∧ (v3 + 1) < m4637 0 3 ∧ gh_i (v3 + 2) ∧ 0 ≤ v3 + 2 ∧ (v3 + 2) < m4637 0 3 ∧ gh_i (v3 + 3) ∧ 0 ≤ v3 + 3 ∧ (v3 + 3) < m4637 0 3 ∧ gh_i (v3 + 4) ∧ 0 ≤ v3 + 4 ∧ (v3 + 4) < m4637 0 3 ∧ gh_i (v3 + 5) ∧ 0 ≤ v3 + 5 ∧ (v3 + 5) < m4637 0 3 ∧ w_Model_type (m4637 1 (v3 + 1)) (m4637 1 (v3 + 2)) (m4637 1 (v3 + 3)) (m4637 1 (v3 + 4)) (m4637 1 (v3 + 5)) m4637 (fun r4653 m4654 => ((r4636 = r4653 → J1027 m4654) ∧ (¬ (r4636 = r4653) → Q 0 m4654))))) ∧ (((gh_iand_f (m 1 v3) 31) = 1 → w_House_wipe m (fun r4657 m4658 => w_Model_wipe m4658 (fun r4659 m4660 => ((r4657 = r4659 → J1027 m4660) ∧ (¬ (r4657 = r4659) → Q 0 m4660))))) ∧ (((gh_iand_f (m 1 v3) 31) = 2 → gh_i (v3 + 1) ∧ 0 ≤ v3 + 1 ∧ (v3 + 1) < m 0 3 ∧ k_House_sign (m 1 (v3 + 1)) m ∧ gh_i (v3 + 1) ∧ 0 ≤ v3 + 1 ∧ (v3 + 1) < m 0 3 ∧ k_Model_sign (m 1 (v3 + 1)) m ∧ (((x_House_sign (m 1 (v3 + 1)) m) = (x_Model_sign (m 1 (v3 + 1)) m) → J1027 m) ∧ (¬ ((x_House_sign (m 1 (v3 + 1)) m) = (x_Model_sign (m 1 (v3 + 1)) m)) → Q 0 m))) ∧ (((gh_iand_f (m 1 v3) 31) = 3 → w_House_read m (fun r4673 m4674 => w_Model_read m4674 (fun r4675 m4676 => ((r4673 = r4675 → J1027 m4676) ∧ (¬ (r4673 = r4675) → Q 0 m4676))))) ∧ (((gh_iand_f (m 1 v3) 31) = 4 → gh_i (v3 + 1) ∧ 0 ≤ v3 + 1 ∧ (v3 + 1) < m 0 3 ∧ w_House_fault (m 1 (v3 + 1)) m (fun r4682 => gh_i (v3 + 1) ∧ 0 ≤ v3 + 1 ∧ (v3 + 1) < m 0 3 ∧ ((r4682 = (x_Model_fault (m 1 (v3 + 1)) m) → J1027 m) ∧ (¬ (r4682 = (x_Model_fault (m 1 (v3 + 1)) m)) → Q 0 m)))) ∧ (((gh_iand_f (m 1 v3) 31) = 5 → gh_i (v3 + 1) ∧ 0 ≤ v3 + 1 ∧ (v3 + 1) < m 0 3 ∧ w_House_sum (m 1 (v3 + 1)) m (fun r4692 => gh_i (v3 + 1) ∧ 0 ≤ v3 + 1 ∧ (v3 + 1) < m 0 3 ∧ w_Model_sum (m 1 (v3 + 1)) m (fun r4697 => ((r4692 = r4697 → J1027 m) ∧ (¬ (r4692 = r4697) → Q 0 m))))) ∧ (((gh_iand_f (m 1 v3) 31) = 6 → gh_i (v3 + 1) ∧ 0 ≤ v3 + 1 ∧ (v3 + 1) < m 0 3 ∧ gh_i (v3 + 2) ∧ 0 ≤ v3 + 2 ∧ (v3 + 2) < m 0 3 ∧ w_House_name (m 1 (v3 + 1)) (m 1 (v3 + 2)) m (fun r4707 => gh_i (v3 + 1) ∧ 0 ≤ v3 + 1 ∧ (v3 + 1) < m 0 3 ∧ gh_i (v3 + 2) ∧ 0 ≤ v3 + 2 ∧ (v3 + 2) < m 0 3 ∧ w_Model_name (m 1 (v3 + 1)) (m 1 (v3 + 2)) m (fun r4715 => ((r4707 = r4715 → J1027 m) ∧ (¬ (r4707 = r4715) → Q 0 m))))) ∧ (((gh_iand_f (m 1 v3) 31) = 7 → gh_i (v3 + 1) ∧ 0 ≤ v3 + 1 ∧ (v3 + 1) < m 0 3 ∧ gh_i (v3 + 2) ∧ 0 ≤ v3 + 2 ∧ (v3 + 2) < m 0 3 ∧ w_House_nameSign (m 1 (v3 + 1)) (m 1 (v3 + 2)) m (fun r4725 => gh_i (v3 + 1) ∧ 0 ≤ v3 + 1 ∧ (v3 + 1) < m 0 3 ∧ gh_i (v3 + 2) ∧ 0 ≤ v3 + 2 ∧ (v3 + 2) < m 0 3 ∧ k_Model_nameSign (m 1 (v3 + 1)) (m 1 (v3 + 2)) m ∧ ((r4725 = (x_Model_nameSign (m 1 (v3 + 1)) (m 1 (v3 + 2)) m) → J1027 m) ∧ (¬ (r4725 = (x_Model_nameSign (m 1 (v3 + 1)) (m 1 (v3 + 2)) m)) → Q 0 m)))) ∧ (((gh_iand_f (m 1 v3) 31) = 8 → gh_i (v3 + 1) ∧ 0 ≤ v3 + 1 ∧ (v3 + 1) < m 0 3 ∧ gh_i (v3 + 2) ∧ 0 ≤ v3 + 2 ∧ (v3 + 2) < m 0 3 ∧ k_House_rule (m 1 (v3 + 1)) (m 1 (v3 + 2)) m ∧ gh_i (v3 + 1) ∧ 0 ≤ v3 + 1 ∧ (v3 + 1) < m 0 3 ∧ gh_i (v3 + 2) ∧ 0 ≤ v3 + 2 ∧ (v3 + 2) < m 0 3 ∧ k_Model_rule (m 1 (v3 + 1)) (m 1 (v3 + 2)) m ∧ (((x_House_rule (m 1 (v3 + 1)) (m 1 (v3 + 2)) m) = (x_Model_rule (m 1 (v3 + 1)) (m 1 (v3 + 2)) m) → J1027 m) ∧ (¬ ((x_House_rule (m 1 (v3 + 1)) (m 1 (v3 + 2)) m) = (x_Model_rule (m 1 (v3 + 1)) (m 1 (v3 + 2)) m)) → Q 0 m))) ∧ (((gh_iand_f (m 1 v3) 31) = 9 → gh_i (v3 + 1) ∧ 0 ≤ v3 + 1 ∧ (v3 + 1) < m 0 3 ∧ gh_i (v3 + 2) ∧ 0 ≤ v3 + 2 ∧ (v3 + 2) < m 0 3 ∧ k_House_part (m 1 (v3 + 1)) (m 1 (v3 + 2)) m ∧ gh_i (v3 + 1) ∧ 0 ≤ v3 + 1 ∧ (v3 + 1) < m 0 3 ∧ gh_i (v3 + 2) ∧ 0 ≤ v3 + 2 ∧ (v3 + 2) < m 0 3 ∧ k_Model_part (m 1 (v3 + 1)) (m 1 (v3 + 2)) m ∧ (((x_House_part (m 1 (v3 + 1)) (m 1 (v3 + 2)) m) = (x_Model_part (m 1 (v3 + 1)) (m 1 (v3 + 2)) m) → J1027 m) ∧ (¬ ((x_House_part (m 1 (v3 + 1)) (m 1 (v3 + 2)) m) = (x_Model_part (m 1 (v3 + 1)) (m 1 (v3 + 2)) m)) → Q 0 m))) ∧ (((gh_iand_f (m 1 v3) 31) = 10 → gh_i (v3 + 1) ∧ 0 ≤ v3 + 1 ∧ (v3 + 1) < m 0 3 ∧ k_House_first (m 1 (v3 + 1)) m ∧ gh_i (v3 + 1) ∧ 0 ≤ v3 + 1 ∧ (v3 + 1) < m 0 3 ∧ k_Model_first (m 1 (v3 + 1)) m ∧ (((x_House_first (m 1 (v3 + 1)) m) = (x_Model_first (m 1 (v3 + 1)) m) → J1027 m) ∧ (¬ ((x_House_first (m 1 (v3 + 1)) m) = (x_Model_first (m 1 (v3 + 1)) m)) → Q 0 m))) ∧ (((gh_iand_f (m 1 v3) 31) = 11 → gh_i (v3 + 1) ∧ 0 ≤ v3 + 1 ∧ (v3 + 1) < m 0 3 ∧ k_House_follow (m 1 (v3 + 1)) m ∧ gh_i (v3 + 1) ∧ 0 ≤ v3 + 1 ∧ (v3 + 1) < m 0 3 ∧ k_Model_follow (m 1 (v3 + 1)) m ∧ (((x_House_follow (m 1 (v3 + 1)) m) = (x_Model_follow (m 1 (v3 + 1)) m) → J1027 m) ∧ (¬ ((x_House_follow (m 1 (v3 + 1)) m) = (x_Model_follow (m 1 (v3 + 1)) m)) → Q 0 m))) ∧ (((gh_iand_f (m 1 v3) 31) = 12 → gh_i (v3 + 1) ∧ 0 ≤ v3 + 1 ∧ (v3 + 1) < m 0 3 ∧ gh_i (v3 + 2) ∧ 0 ≤ v3 + 2 ∧ (v3 + 2) < m 0 3 ∧ w_House_table (m 1 (v3 + 1)) (m 1 (v3 + 2)) m (fun r4794 => gh_i (v3 + 1) ∧ 0 ≤ v3 + 1 ∧ (v3 + 1) < m 0 3 ∧ gh_i (v3 + 2) ∧ 0 ≤ v3 + 2 ∧ (v3 + 2) < m 0 3 ∧ w_Model_table (m 1 (v3 + 1)) (m 1 (v3 + 2)) m (fun r4802 => ((r4794 = r4802 → J1027 m) ∧ (¬ (r4794 = r4802) → Q 0 m))))) ∧ (((gh_iand_f (m 1 v3) 31) = 13 → gh_i (v3 + 1) ∧ 0 ≤ v3 + 1 ∧ (v3 + 1) < m 0 3 ∧ w_House_put (m 1 (v3 + 1)) m (fun r4809 m4810 => gh_i (v3 + 1) ∧ 0 ≤ v3 + 1 ∧ (v3 + 1) < m4810 0 3 ∧ w_Model_put (m4810 1 (v3 + 1)) m4810 (fun r4814 m4815 => ((r4809 = r4814 → J1027 m4815) ∧ (¬ (r4809 = r4814) → Q 0 m4815))))) ∧ (((gh_iand_f (m 1 v3) 31) = 14 → gh_i (v3 + 1) ∧ 0 ≤ v3 + 1 ∧ (v3 + 1) < m 0 3 ∧ w_House_back (m 1 (v3 + 1)) m (fun r4821 m4822 => gh_i (v3 + 1) ∧ 0 ≤ v3 + 1 ∧ (v3 + 1) < m4822 0 3 ∧ w_Model_back (m4822 1 (v3 + 1)) m4822 (fun r4826 m4827 => ((r4821 = r4826 → J1027 m4827) ∧ (¬ (r4821 = r4826) → Q 0 m4827))))) ∧ (((gh_iand_f (m 1 v3) 31) = 15 → gh_i (v3 + 1) ∧ 0 ≤ v3 + 1 ∧ (v3 + 1) < m 0 3 ∧ w_House_made (m 1 (v3 + 1)) m (fun r4833 m4834 => gh_i (v3 + 1) ∧ 0 ≤ v3 + 1 ∧ (v3 + 1) < m4834 0 3 ∧ w_Model_made (m4834 1 (v3 + 1)) m4834 (fun r4838 m4839 => ((r4833 = r4838 → J1027 m4839) ∧ (¬ (r4833 = r4838) → Q 0 m4839))))) ∧ (((gh_iand_f (m 1 v3) 31) = 16 → gh_i (v3 + 1) ∧ 0 ≤ v3 + 1 ∧ (v3 + 1) < m 0 3 ∧ k_House_letter (m 1 (v3 + 1)) m ∧ gh_i (v3 + 1) ∧ 0 ≤ v3 + 1 ∧ (v3 + 1) < m 0 3 ∧ k_Model_letter (m 1 (v3 + 1)) m ∧ (((x_House_letter (m 1 (v3 + 1)) m) = (x_Model_letter (m 1 (v3 + 1)) m) → J1027 m) ∧ (¬ ((x_House_letter (m 1 (v3 + 1)) m) = (x_Model_letter (m 1 (v3 + 1)) m)) → Q 0 m))) ∧ (((gh_iand_f (m 1 v3) 31) = 17 → gh_i (v3 + 1) ∧ 0 ≤ v3 + 1 ∧ (v3 + 1) < m 0 3 ∧ w_House_accepts (m 1 (v3 + 1)) m (fun r4855 m4856 => gh_i (v3 + 1) ∧ 0 ≤ v3 + 1 ∧ (v3 + 1) < m4856 0 3 ∧ w_Model_accepts (m4856 1 (v3 + 1)) m4856 (fun r4860 m4861 => ((r4855 = r4860 → J1027 m4861) ∧ (¬ (r4855 = r4860) → Q 0 m4861))))) ∧ (((gh_iand_f (m 1 v3) 31) = 18 → gh_i (v3 + 1) ∧ 0 ≤ v3 + 1 ∧ (v3 + 1) < m 0 3 ∧ w_House_next (m 1 (v3 + 1)) m (fun r4867 m4868 => gh_i (v3 + 1) ∧ 0 ≤ v3 + 1 ∧ (v3 + 1) < m4868 0 3 ∧ w_Model_next2 (m4868 1 (v3 + 1)) m4868 (fun r4872 m4873 => ((r4867 = r4872 → J1027 m4873) ∧ (¬ (r4867 = r4872) → Q 0 m4873))))) ∧ (((gh_iand_f (m 1 v3) 31) = 19 → gh_i (v3 + 1) ∧ 0 ≤ v3 + 1 ∧ (v3 + 1) < m 0 3 ∧ w_House_items (m 1 (v3 + 1)) m (fun r4879 m4880 => gh_i (v3 + 1) ∧ 0 ≤ v3 + 1 ∧ (v3 + 1) < m4880 0 3 ∧ w_Model_items (m4880 1 (v3 + 1)) m4880 (fun r4884 m4885 => ((r4879 = r4884 → J1027 m4885) ∧ (¬ (r4879 = r4884) → Q 0 m4885))))) ∧ (((gh_iand_f (m 1 v3) 31) = 20 → gh_i (v3 + 1) ∧ 0 ≤ v3 + 1 ∧ (v3 + 1) < m 0 3 ∧ gh_i (v3 + 2) ∧ 0 ≤ v3 + 2 ∧ (v3 + 2) < m 0 3 ∧ gh_i (v3 + 3) ∧ 0 ≤ v3 + 3 ∧ (v3 + 3) < m 0 3 ∧ gh_i (v3 + 4) ∧ 0 ≤ v3 + 4 ∧ (v3 + 4) < m 0 3 ∧ w_House_isItem (m 1 (v3 + 1)) (m 1 (v3 + 2)) (m 1 (v3 + 3)) (m 1 (v3 + 4)) m (fun r4900 m4901 => gh_i (v3 + 1) ∧ 0 ≤ v3 + 1 ∧ (v3 + 1) < m4901 0 3 ∧ gh_i (v3 + 2) ∧ 0 ≤ v3 + 2 ∧ (v3 + 2) < m4901 0 3 ∧ gh_i (v3 + 3) ∧ 0 ≤ v3 + 3 ∧ (v3 + 3) < m4901 0 3 ∧ gh_i (v3 + 4) ∧ 0 ≤ v3 + 4 ∧ (v3 + 4) < m4901 0 3 ∧ w_Model_isItem (m4901 1 (v3 + 1)) (m4901 1 (v3 + 2)) (m4901 1 (v3 + 3)) (m4901 1 (v3 + 4)) m4901 (fun r4914 m4915 => ((r4900 = r4914 → J1027 m4915) ∧ (¬ (r4900 = r4914) → Q 0 m4915))))) ∧ (((gh_iand_f (m 1 v3) 31) = 21 → gh_i (v3 + 1) ∧ 0 ≤ v3 + 1 ∧ (v3 + 1) < m 0 3 ∧ gh_i (v3 + 2) ∧ 0 ≤ v3 + 2 ∧ (v3 + 2) < m 0 3 ∧ gh_i (v3 + 3) ∧ 0 ≤ v3 + 3 ∧ (v3 + 3) < m 0 3 ∧ w_House_makes (m 1 (v3 + 1)) (m 1 (v3 + 2)) (m 1 (v3 + 3)) m (fun r4927 m4928 => gh_i (v3 + 1) ∧ 0 ≤ v3 + 1 ∧ (v3 + 1) < m4928 0 3 ∧ gh_i (v3 + 2) ∧ 0 ≤ v3 + 2 ∧ (v3 + 2) < m4928 0 3 ∧ gh_i (v3 + 3) ∧ 0 ≤ v3 + 3 ∧ (v3 + 3) < m4928 0 3 ∧ w_Model_makes (m4928 1 (v3 + 1)) (m4928 1 (v3 + 2)) (m4928 1 (v3 + 3)) m4928 (fun r4938 m4939 => ((r4927 = r4938 → J1027 m4939) ∧ (¬ (r4927 = r4938) → Q 0 m4939))))) ∧ (((gh_iand_f (m 1 v3) 31) = 22 → gh_i (v3 + 1) ∧ 0 ≤ v3 + 1 ∧ (v3 + 1) < m 0 3 ∧ w_House_end (m 1 (v3 + 1)) m (fun r4945 m4946 => gh_i (v3 + 1) ∧ 0 ≤ v3 + 1 ∧ (v3 + 1) < m4946 0 3 ∧ w_Model_end (m4946 1 (v3 + 1)) m4946 (fun r4950 m4951 => ((r4945 = r4950 → J1027 m4951) ∧ (¬ (r4945 = r4950) → Q 0 m4951))))) ∧ (((gh_iand_f (m 1 v3) 31) = 23 → w_House_repair m (fun r4954 m4955 => w_Model_repair m4955 (fun r4956 m4957 => ((r4954 = r4956 → J1027 m4957) ∧ (¬ (r4954 = r4956) → Q 0 m4957))))) ∧ (((gh_iand_f (m 1 v3) 31) = 24 → gh_i (v3 + 1) ∧ 0 ≤ v3 + 1 ∧ (v3 + 1) < m 0 3 ∧ gh_i (v3 + 2) ∧ 0 ≤ v3 + 2 ∧ (v3 + 2) < m 0 3 ∧ gh_i (v3 + 3) ∧ 0 ≤ v3 + 3 ∧ (v3 + 3) < m 0 3 ∧ w_House_trees (m 1 (v3 + 1)) (m 1 (v3 + 2)) (m 1 (v3 + 3)) m (fun r4969 m4970 => gh_i (v3 + 1) ∧ 0 ≤ v3 + 1 ∧ (v3 + 1) < m4970 0 3 ∧ gh_i (v3 + 2) ∧ 0 ≤ v3 + 2 ∧ (v3 + 2) < m4970 0 3 ∧ gh_i (v3 + 3) ∧ 0 ≤ v3 + 3 ∧ (v3 + 3) < m4970 0 3 ∧ w_Model_trees (m4970 1 (v3 + 1)) (m4970 1 (v3 + 2)) (m4970 1 (v3 + 3)) m4970 (fun r4980 m4981 => ((r4969 = r4980 → J1027 m4981) ∧ (¬ (r4969 = r4980) → Q 0 m4981))))) ∧ (((gh_iand_f (m 1 v3) 31) = 25 → gh_i (v3 + 1) ∧ 0 ≤ v3 + 1 ∧ (v3 + 1) < m 0 3 ∧ gh_i (v3 + 2) ∧ 0 ≤ v3 + 2 ∧ (v3 + 2) < m 0 3 ∧ w_House_pick (gh_lor_f (gh_lshl_f (m 1 (v3 + 1)) 32) (gh_land_f (m 1 (v3 + 2)) 4294967295)) m (fun r4990 m4991 => gh_i (v3 + 1) ∧ 0 ≤ v3 + 1 ∧ (v3 + 1) < m4991 0 3 ∧ gh_i (v3 + 2) ∧ 0 ≤ v3 + 2 ∧ (v3 + 2) < m4991 0 3 ∧ w_Model_pick (gh_lor_f (gh_lshl_f (m4991 1 (v3 + 1)) 32) (gh_land_f (m4991 1 (v3 + 2)) 4294967295)) m4991 (fun r4998 m4999 => ((r4990 = r4998 → J1027 m4999) ∧ (¬ (r4990 = r4998) → Q 0 m4999))))) ∧ (((gh_iand_f (m 1 v3) 31) = 26 → gh_i (v3 + 1) ∧ 0 ≤ v3 + 1 ∧ (v3 + 1) < m 0 3 ∧ k_House_step (m 1 (v3 + 1)) m ∧ gh_i (v3 + 1) ∧ 0 ≤ v3 + 1 ∧ (v3 + 1) < m 0 3 ∧ k_Model_step (m 1 (v3 + 1)) m ∧ (((x_House_step (m 1 (v3 + 1)) m) = (x_Model_step (m 1 (v3 + 1)) m) → J1027 m) ∧ (¬ ((x_House_step (m 1 (v3 + 1)) m) = (x_Model_step (m 1 (v3 + 1)) m)) → Q 0 m))) ∧ (((gh_iand_f (m 1 v3) 31) = 27 → (((x_House_deep m) = (x_Model_deep m) → J1027 m) ∧ (¬ ((x_House_deep m) = (x_Model_deep m)) → Q 0 m))) ∧ (((gh_iand_f (m 1 v3) 31) = 28 → gh_i (v3 + 1) ∧ 0 ≤ v3 + 1 ∧ (v3 + 1) < m 0 3 ∧ w_House_proper (m 1 (v3 + 1)) m (fun r5017 m5018 => gh_i (v3 + 1) ∧ 0 ≤ v3 + 1 ∧ (v3 + 1) < m5018 0 3 ∧ w_Model_proper (m5018 1 (v3 + 1)) m5018 (fun r5022 => ((r5017 = r5022 → J1027 m5018) ∧ (¬ (r5017 = r5022) → Q 0 m5018))))) ∧ (((gh_iand_f (m 1 v3) 31) = 29 → gh_i (v3 + 1) ∧ 0 ≤ v3 + 1 ∧ (v3 + 1) < m 0 3 ∧ w_House_properly (m 1 (v3 + 1)) m (fun r5029 m5030 => gh_i (v3 + 1) ∧ 0 ≤ v3 + 1 ∧ (v3 + 1) < m5030 0 3 ∧ w_Model_properly (m5030 1 (v3 + 1)) m5030 (fun r5034 m5035 => ((r5029 = r5034 → J1027 m5035) ∧ (¬ (r5029 = r5034) → Q 0 m5035))))) ∧ (((gh_iand_f (m 1 v3) 31) = 30 → w_House_digest m (fun r5038 m5039 => w_Model_digest m5039 (fun r5040 m5041 => ((r5038 = r5040 → J1027 m5041) ∧ (¬ (r5038 = r5040) → Q 0 m5041))))) ∧ (¬ ((gh_iand_f (m 1 v3) 31) = 0) → ¬ ((gh_iand_f (m 1 v3) 31) = 1) → ¬ ((gh_iand_f (m 1 v3) 31) = 2) → ¬ ((gh_iand_f (m 1 v3) 31) = 3) → ¬ ((gh_iand_f (m 1 v3) 31) = 4) → ¬ ((gh_iand_f (m 1 v3) 31) = 5) → ¬ ((gh_iand_f (m 1 v3) 31) = 6) → ¬ ((gh_iand_f (m 1 v3) 31) = 7) → ¬ ((gh_iand_f (m 1 v3) 31) = 8) → ¬ ((gh_iand_f (m 1 v3) 31) = 9) → ¬ ((gh_iand_f (m 1 v3) 31) = 10) → ¬ ((gh_iand_f (m 1 v3) 31) = 11) → ¬ ((gh_iand_f (m 1 v3) 31) = 12) → ¬ ((gh_iand_f (m 1 v3) 31) = 13) → ¬ ((gh_iand_f (m 1 v3) 31) = 14) → ¬ ((gh_iand_f (m 1 v3) 31) = 15) → ¬ ((gh_iand_f (m 1 v3) 31) = 16) → ¬ ((gh_iand_f (m 1 v3) 31) = 17) → ¬ ((gh_iand_f (m 1 v3) 31) = 18) → ¬ ((gh_iand_f (m 1 v3) 31) = 19) → ¬ ((gh_iand_f (m 1 v3) 31) = 20) → ¬ ((gh_iand_f (m 1 v3) 31) = 21) → ¬ ((gh_iand_f (m 1 v3) 31) = 22) → ¬ ((gh_iand_f (m 1 v3) 31) = 23) → ¬ ((gh_iand_f (m 1 v3) 31) = 24) → ¬ ((gh_iand_f (m 1 v3) 31) = 25) → ¬ ((gh_iand_f (m 1 v3) 31) = 26) → ¬ ((gh_iand_f (m 1 v3) 31) = 27) → ¬ ((gh_iand_f (m 1 v3) 31) = 28) → ¬ ((gh_iand_f (m 1 v3) 31) = 29) → ¬ ((gh_iand_f (m 1 v3) 31) = 30) → J1027 m))))))))))))))))))))))))))))))))) ∧ (¬ (v3 ≤ ((m 0 3) - 6)) → Q 1 m))
def w_Law (m : gh_M) (Q : Int → gh_M → Prop) : Prop := gh_M1 (fun K18 v3 m => f_Law_law_18 Q K18 v3 m) 0 m
theorem b_Law_law_18 {E : gh_E} {Q : Int → gh_M → Prop} {K18 : Int → gh_M → Prop} (d : Nat) (hK : ∀ (v3 : Int) (m : gh_M), gh_F m → K18 v3 m → gh_T E gh_MLaw (d + 36) 18 [(0, 2, 1), (1, 2, 2), (2, 2, 63), (3, 0, v3)] [] m (fun r m1 => gh_F m1 ∧ Q r m1)) (v3 : Int) (m : gh_M) (hF : gh_F m) (h : f_Law_law_18 Q K18 v3 m) : gh_T E gh_MLaw (d + 36) 18 [(0, 2, 1), (1, 2, 2), (2, 2, 63), (3, 0, v3)] [] m (fun r m1 => gh_F m1 ∧ Q r m1) := by
  have hK18 := hK
  unfold f_Law_law_18 at h
  refine gh_iload_n gd_Law_law_18 3 rfl ?_
  refine gh_aload_n gd_Law_law_19 0 rfl (by decide) ?_
  refine gh_slen gd_Law_law_20 ?_
  refine gh_bipush gd_Law_law_21 (by decide) (gh_r0 rfl) ?_
  obtain ⟨q4615, h⟩ := h
  refine gh_isub gd_Law_law_23 q4615 ?_
  obtain ⟨hA, hB⟩ := h
  refine gh_jgt (tgt := 1033) gd_Law_law_24 (by decide) (fun c4616 => ?_) (fun c4616 => ?_)
  · have h := hA c4616
    refine gh_aload_n gd_Law_law_27 0 rfl (by decide) ?_
    refine gh_iload_n gd_Law_law_28 3 rfl ?_
    obtain ⟨q4617, h⟩ := h
    obtain ⟨q4618, h⟩ := h
    refine gh_sald gd_Law_law_29 q4617 q4618 ?_
    refine gh_bipush gd_Law_law_30 (by decide) (gh_r0 rfl) ?_
    refine gh_iand gd_Law_law_32 ?_
    obtain ⟨J1027, hJ1027, h⟩ := h
    have hJ1027 : ∀ (m : gh_M), gh_F m → J1027 m → gh_T E gh_MLaw (d + 36) 1027 [(0, 2, 1), (1, 2, 2), (2, 2, 63), (3, 0, v3)] [] m (fun r m1 => gh_F m1 ∧ Q r m1) := by
      intro m hF hj
      have h := hJ1027 m hj
      obtain ⟨q4619, h⟩ := h
      refine gh_iinc (L2 := [(3, 0, v3 + 6), (0, 2, 1), (1, 2, 2), (2, 2, 63)]) gd_Law_law_1027 3 rfl q4619 (by decide) rfl ?_
      refine gh_goto (tgt := 18) gd_Law_law_1030 (by decide) ?_
      refine gh_pick (L2 := [(0, 2, 1), (1, 2, 2), (2, 2, 63), (3, 0, v3 + 6)]) [1, 2, 3, 0] rfl ?_
      exact hK18 (v3 + 6) m hF h
    obtain ⟨hA, h⟩ := h
    by_cases c4620 : (gh_iand_f (m 1 v3) 31) = 0
    · have h := hA c4620
      refine gh_tabIn (tgt := 172) gd_Law_law_33 (by rw [c4620]; decide) (by rw [c4620]; decide) (by rw [c4620]; rfl) (by decide) ?_
      refine gh_aload_n gd_Law_law_172 1 rfl (by decide) ?_
      refine gh_aload_n gd_Law_law_173 0 rfl (by decide) ?_
      refine gh_iload_n gd_Law_law_174 3 rfl ?_
      refine gh_iconst gd_Law_law_175 (gh_r0 rfl) ?_
      obtain ⟨q4621, h⟩ := h
      refine gh_iadd gd_Law_law_176 q4621 ?_
      obtain ⟨q4622, h⟩ := h
      obtain ⟨q4623, h⟩ := h
      refine gh_sald gd_Law_law_177 q4622 q4623 ?_
      refine gh_aload_n gd_Law_law_178 0 rfl (by decide) ?_
      refine gh_iload_n gd_Law_law_179 3 rfl ?_
      refine gh_iconst gd_Law_law_180 (gh_r0 rfl) ?_
      obtain ⟨q4624, h⟩ := h
      refine gh_iadd gd_Law_law_181 q4624 ?_
      obtain ⟨q4625, h⟩ := h
      obtain ⟨q4626, h⟩ := h
      refine gh_sald gd_Law_law_182 q4625 q4626 ?_
      refine gh_aload_n gd_Law_law_183 0 rfl (by decide) ?_
      refine gh_iload_n gd_Law_law_184 3 rfl ?_
      refine gh_iconst gd_Law_law_185 (gh_r0 rfl) ?_
      obtain ⟨q4627, h⟩ := h
      refine gh_iadd gd_Law_law_186 q4627 ?_
      obtain ⟨q4628, h⟩ := h
      obtain ⟨q4629, h⟩ := h
      refine gh_sald gd_Law_law_187 q4628 q4629 ?_
      refine gh_aload_n gd_Law_law_188 0 rfl (by decide) ?_
      refine gh_iload_n gd_Law_law_189 3 rfl ?_
      refine gh_iconst gd_Law_law_190 (gh_r0 rfl) ?_
      obtain ⟨q4630, h⟩ := h
      refine gh_iadd gd_Law_law_191 q4630 ?_
      obtain ⟨q4631, h⟩ := h
      obtain ⟨q4632, h⟩ := h
      refine gh_sald gd_Law_law_192 q4631 q4632 ?_
      refine gh_aload_n gd_Law_law_193 0 rfl (by decide) ?_
      refine gh_iload_n gd_Law_law_194 3 rfl ?_
      refine gh_iconst gd_Law_law_195 (gh_r0 rfl) ?_
      obtain ⟨q4633, h⟩ := h
      refine gh_iadd gd_Law_law_196 q4633 ?_
      obtain ⟨q4634, h⟩ := h
      obtain ⟨q4635, h⟩ := h
      refine gh_sald gd_Law_law_197 q4634 q4635 ?_
      refine cv_House_type (d := d + 35) gd_Law_law_198 gh_k667 hF (Nat.le_of_ble_eq_true rfl) (gh_C.mono (s_House_type (d + 34) (m 1 (v3 + 1)) (m 1 (v3 + 2)) (m 1 (v3 + 3)) (m 1 (v3 + 4)) (m 1 (v3 + 5)) hF h) (fun r4636 m4637 hq => ?_))
      obtain ⟨hF, h⟩ := hq
      refine gh_aload_n gd_Law_law_201 2 rfl (by decide) ?_
      refine gh_aload_n gd_Law_law_202 0 rfl (by decide) ?_
      refine gh_iload_n gd_Law_law_203 3 rfl ?_
      refine gh_iconst gd_Law_law_204 (gh_r0 rfl) ?_
      obtain ⟨q4638, h⟩ := h
      refine gh_iadd gd_Law_law_205 q4638 ?_
      obtain ⟨q4639, h⟩ := h
      obtain ⟨q4640, h⟩ := h
      refine gh_sald gd_Law_law_206 q4639 q4640 ?_
      refine gh_aload_n gd_Law_law_207 0 rfl (by decide) ?_
      refine gh_iload_n gd_Law_law_208 3 rfl ?_
      refine gh_iconst gd_Law_law_209 (gh_r0 rfl) ?_
      obtain ⟨q4641, h⟩ := h
      refine gh_iadd gd_Law_law_210 q4641 ?_
      obtain ⟨q4642, h⟩ := h
      obtain ⟨q4643, h⟩ := h
      refine gh_sald gd_Law_law_211 q4642 q4643 ?_
      refine gh_aload_n gd_Law_law_212 0 rfl (by decide) ?_
      refine gh_iload_n gd_Law_law_213 3 rfl ?_
      refine gh_iconst gd_Law_law_214 (gh_r0 rfl) ?_
      obtain ⟨q4644, h⟩ := h
      refine gh_iadd gd_Law_law_215 q4644 ?_
      obtain ⟨q4645, h⟩ := h
      obtain ⟨q4646, h⟩ := h
      refine gh_sald gd_Law_law_216 q4645 q4646 ?_
      refine gh_aload_n gd_Law_law_217 0 rfl (by decide) ?_
      refine gh_iload_n gd_Law_law_218 3 rfl ?_
      refine gh_iconst gd_Law_law_219 (gh_r0 rfl) ?_
      obtain ⟨q4647, h⟩ := h
      refine gh_iadd gd_Law_law_220 q4647 ?_
      obtain ⟨q4648, h⟩ := h
      obtain ⟨q4649, h⟩ := h
      refine gh_sald gd_Law_law_221 q4648 q4649 ?_
      refine gh_aload_n gd_Law_law_222 0 rfl (by decide) ?_
      refine gh_iload_n gd_Law_law_223 3 rfl ?_
      refine gh_iconst gd_Law_law_224 (gh_r0 rfl) ?_
      obtain ⟨q4650, h⟩ := h
      refine gh_iadd gd_Law_law_225 q4650 ?_
      obtain ⟨q4651, h⟩ := h
      obtain ⟨q4652, h⟩ := h
      refine gh_sald gd_Law_law_226 q4651 q4652 ?_
      refine cv_Model_type (d := d + 35) gd_Law_law_227 gh_k1621 hF (Nat.le_of_ble_eq_true rfl) (gh_C.mono (s_Model_type (d + 33) (m4637 1 (v3 + 1)) (m4637 1 (v3 + 2)) (m4637 1 (v3 + 3)) (m4637 1 (v3 + 4)) (m4637 1 (v3 + 5)) hF h) (fun r4653 m4654 hq => ?_))
      obtain ⟨hF, h⟩ := hq
      obtain ⟨hA, hB⟩ := h
      refine gh_jeq (tgt := 1027) gd_Law_law_230 (by decide) (fun c4655 => ?_) (fun c4655 => ?_)
      · have h := hA c4655
        exact hJ1027 m4654 hF h
      · have h := hB c4655
        refine gh_iconst gd_Law_law_233 (gh_r0 rfl) ?_
        exact gh_ret8 rfl gd_Law_law_234 (by decide) ⟨hF, h⟩
    obtain ⟨hA, h⟩ := h
    by_cases c4656 : (gh_iand_f (m 1 v3) 31) = 1
    · have h := hA c4656
      refine gh_tabIn (tgt := 235) gd_Law_law_33 (by rw [c4656]; decide) (by rw [c4656]; decide) (by rw [c4656]; rfl) (by decide) ?_
      refine gh_aload_n gd_Law_law_235 1 rfl (by decide) ?_
      refine cv_House_wipe (d := d + 35) gd_Law_law_236 gh_k681 hF (Nat.le_of_ble_eq_true rfl) (gh_C.mono (s_House_wipe (d + 35) hF h) (fun r4657 m4658 hq => ?_))
      obtain ⟨hF, h⟩ := hq
      refine gh_aload_n gd_Law_law_239 2 rfl (by decide) ?_
      refine cv_Model_wipe (d := d + 35) gd_Law_law_240 gh_k1638 hF (Nat.le_of_ble_eq_true rfl) (gh_C.mono (s_Model_wipe (d + 35) hF h) (fun r4659 m4660 hq => ?_))
      obtain ⟨hF, h⟩ := hq
      obtain ⟨hA, hB⟩ := h
      refine gh_jeq (tgt := 1027) gd_Law_law_243 (by decide) (fun c4661 => ?_) (fun c4661 => ?_)
      · have h := hA c4661
        exact hJ1027 m4660 hF h
      · have h := hB c4661
        refine gh_iconst gd_Law_law_246 (gh_r0 rfl) ?_
        exact gh_ret8 rfl gd_Law_law_247 (by decide) ⟨hF, h⟩
    obtain ⟨hA, h⟩ := h
    by_cases c4662 : (gh_iand_f (m 1 v3) 31) = 2
    · have h := hA c4662
      refine gh_tabIn (tgt := 248) gd_Law_law_33 (by rw [c4662]; decide) (by rw [c4662]; decide) (by rw [c4662]; rfl) (by decide) ?_
      refine gh_aload_n gd_Law_law_248 1 rfl (by decide) ?_
      refine gh_aload_n gd_Law_law_249 0 rfl (by decide) ?_
      refine gh_iload_n gd_Law_law_250 3 rfl ?_
      refine gh_iconst gd_Law_law_251 (gh_r0 rfl) ?_
      obtain ⟨q4663, h⟩ := h
      refine gh_iadd gd_Law_law_252 q4663 ?_
      obtain ⟨q4664, h⟩ := h
      obtain ⟨q4665, h⟩ := h
      refine gh_sald gd_Law_law_253 q4664 q4665 ?_
      obtain ⟨q4666, h⟩ := h
      refine cv_House_sign (d := d + 35) gd_Law_law_254 gh_k685 hF (Nat.le_of_ble_eq_true rfl) (gh_C.pe (e_House_sign (d + 34) (m 1 (v3 + 1)) hF q4666) ?_)
      refine gh_aload_n gd_Law_law_257 2 rfl (by decide) ?_
      refine gh_aload_n gd_Law_law_258 0 rfl (by decide) ?_
      refine gh_iload_n gd_Law_law_259 3 rfl ?_
      refine gh_iconst gd_Law_law_260 (gh_r0 rfl) ?_
      obtain ⟨q4667, h⟩ := h
      refine gh_iadd gd_Law_law_261 q4667 ?_
      obtain ⟨q4668, h⟩ := h
      obtain ⟨q4669, h⟩ := h
      refine gh_sald gd_Law_law_262 q4668 q4669 ?_
      obtain ⟨q4670, h⟩ := h
      refine cv_Model_sign (d := d + 35) gd_Law_law_263 gh_k1642 hF (Nat.le_of_ble_eq_true rfl) (gh_C.pe (e_Model_sign (d + 34) (m 1 (v3 + 1)) hF q4670) ?_)
      obtain ⟨hA, hB⟩ := h
      refine gh_jeq (tgt := 1027) gd_Law_law_266 (by decide) (fun c4671 => ?_) (fun c4671 => ?_)
      · have h := hA c4671
        exact hJ1027 m hF h
      · have h := hB c4671
        refine gh_iconst gd_Law_law_269 (gh_r0 rfl) ?_
        exact gh_ret8 rfl gd_Law_law_270 (by decide) ⟨hF, h⟩
    obtain ⟨hA, h⟩ := h
    by_cases c4672 : (gh_iand_f (m 1 v3) 31) = 3
    · have h := hA c4672
      refine gh_tabIn (tgt := 271) gd_Law_law_33 (by rw [c4672]; decide) (by rw [c4672]; decide) (by rw [c4672]; rfl) (by decide) ?_
      refine gh_aload_n gd_Law_law_271 1 rfl (by decide) ?_
      refine cv_House_read (d := d + 35) gd_Law_law_272 gh_k693 hF (Nat.le_of_ble_eq_true rfl) (gh_C.mono (s_House_read (d + 29) hF h) (fun r4673 m4674 hq => ?_))
      obtain ⟨hF, h⟩ := hq
      refine gh_aload_n gd_Law_law_275 2 rfl (by decide) ?_
      refine cv_Model_read (d := d + 35) gd_Law_law_276 gh_k1646 hF (Nat.le_of_ble_eq_true rfl) (gh_C.mono (s_Model_read (d + 28) hF h) (fun r4675 m4676 hq => ?_))
      obtain ⟨hF, h⟩ := hq
      obtain ⟨hA, hB⟩ := h
      refine gh_jeq (tgt := 1027) gd_Law_law_279 (by decide) (fun c4677 => ?_) (fun c4677 => ?_)
      · have h := hA c4677
        exact hJ1027 m4676 hF h
      · have h := hB c4677
        refine gh_iconst gd_Law_law_282 (gh_r0 rfl) ?_
        exact gh_ret8 rfl gd_Law_law_283 (by decide) ⟨hF, h⟩
    obtain ⟨hA, h⟩ := h
    by_cases c4678 : (gh_iand_f (m 1 v3) 31) = 4
    · have h := hA c4678
      refine gh_tabIn (tgt := 284) gd_Law_law_33 (by rw [c4678]; decide) (by rw [c4678]; decide) (by rw [c4678]; rfl) (by decide) ?_
      refine gh_aload_n gd_Law_law_284 1 rfl (by decide) ?_
      refine gh_aload_n gd_Law_law_285 0 rfl (by decide) ?_
      refine gh_iload_n gd_Law_law_286 3 rfl ?_
      refine gh_iconst gd_Law_law_287 (gh_r0 rfl) ?_
      obtain ⟨q4679, h⟩ := h
      refine gh_iadd gd_Law_law_288 q4679 ?_
      obtain ⟨q4680, h⟩ := h
      obtain ⟨q4681, h⟩ := h
      refine gh_sald gd_Law_law_289 q4680 q4681 ?_
      refine cv_House_fault (d := d + 35) gd_Law_law_290 gh_k953 hF (Nat.le_of_ble_eq_true rfl) (gh_C.pw (s_House_fault (d + 35) (m 1 (v3 + 1)) hF h) (fun r4682 h => ?_))
      refine gh_aload_n gd_Law_law_293 2 rfl (by decide) ?_
      refine gh_aload_n gd_Law_law_294 0 rfl (by decide) ?_
      refine gh_iload_n gd_Law_law_295 3 rfl ?_
      refine gh_iconst gd_Law_law_296 (gh_r0 rfl) ?_
      obtain ⟨q4684, h⟩ := h
      refine gh_iadd gd_Law_law_297 q4684 ?_
      obtain ⟨q4685, h⟩ := h
      obtain ⟨q4686, h⟩ := h
      refine gh_sald gd_Law_law_298 q4685 q4686 ?_
      refine cv_Model_fault (d := d + 35) gd_Law_law_299 gh_k1805 hF (Nat.le_of_ble_eq_true rfl) (gh_C.pe (e_Model_fault (d + 34) (m 1 (v3 + 1)) hF) ?_)
      obtain ⟨hA, hB⟩ := h
      refine gh_jeq (tgt := 1027) gd_Law_law_302 (by decide) (fun c4687 => ?_) (fun c4687 => ?_)
      · have h := hA c4687
        exact hJ1027 m hF h
      · have h := hB c4687
        refine gh_iconst gd_Law_law_305 (gh_r0 rfl) ?_
        exact gh_ret8 rfl gd_Law_law_306 (by decide) ⟨hF, h⟩
    obtain ⟨hA, h⟩ := h
    by_cases c4688 : (gh_iand_f (m 1 v3) 31) = 5
    · have h := hA c4688
      refine gh_tabIn (tgt := 307) gd_Law_law_33 (by rw [c4688]; decide) (by rw [c4688]; decide) (by rw [c4688]; rfl) (by decide) ?_
      refine gh_aload_n gd_Law_law_307 1 rfl (by decide) ?_
      refine gh_aload_n gd_Law_law_308 0 rfl (by decide) ?_
      refine gh_iload_n gd_Law_law_309 3 rfl ?_
      refine gh_iconst gd_Law_law_310 (gh_r0 rfl) ?_
      obtain ⟨q4689, h⟩ := h
      refine gh_iadd gd_Law_law_311 q4689 ?_
      obtain ⟨q4690, h⟩ := h
      obtain ⟨q4691, h⟩ := h
      refine gh_sald gd_Law_law_312 q4690 q4691 ?_
      refine cv_House_sum (d := d + 35) gd_Law_law_313 gh_k957 hF (Nat.le_of_ble_eq_true rfl) (gh_C.pw (s_House_sum (d + 33) (m 1 (v3 + 1)) hF h) (fun r4692 h => ?_))
      refine gh_aload_n gd_Law_law_316 2 rfl (by decide) ?_
      refine gh_aload_n gd_Law_law_317 0 rfl (by decide) ?_
      refine gh_iload_n gd_Law_law_318 3 rfl ?_
      refine gh_iconst gd_Law_law_319 (gh_r0 rfl) ?_
      obtain ⟨q4694, h⟩ := h
      refine gh_iadd gd_Law_law_320 q4694 ?_
      obtain ⟨q4695, h⟩ := h
      obtain ⟨q4696, h⟩ := h
      refine gh_sald gd_Law_law_321 q4695 q4696 ?_
      refine cv_Model_sum (d := d + 35) gd_Law_law_322 gh_k1856 hF (Nat.le_of_ble_eq_true rfl) (gh_C.pw (s_Model_sum (d + 32) (m 1 (v3 + 1)) hF h) (fun r4697 h => ?_))
      obtain ⟨hA, hB⟩ := h
      refine gh_jeq (tgt := 1027) gd_Law_law_325 (by decide) (fun c4699 => ?_) (fun c4699 => ?_)
      · have h := hA c4699
        exact hJ1027 m hF h
      · have h := hB c4699
        refine gh_iconst gd_Law_law_328 (gh_r0 rfl) ?_
        exact gh_ret8 rfl gd_Law_law_329 (by decide) ⟨hF, h⟩
    obtain ⟨hA, h⟩ := h
    by_cases c4700 : (gh_iand_f (m 1 v3) 31) = 6
    · have h := hA c4700
      refine gh_tabIn (tgt := 330) gd_Law_law_33 (by rw [c4700]; decide) (by rw [c4700]; decide) (by rw [c4700]; rfl) (by decide) ?_
      refine gh_aload_n gd_Law_law_330 1 rfl (by decide) ?_
      refine gh_aload_n gd_Law_law_331 0 rfl (by decide) ?_
      refine gh_iload_n gd_Law_law_332 3 rfl ?_
      refine gh_iconst gd_Law_law_333 (gh_r0 rfl) ?_
      obtain ⟨q4701, h⟩ := h
      refine gh_iadd gd_Law_law_334 q4701 ?_
      obtain ⟨q4702, h⟩ := h
      obtain ⟨q4703, h⟩ := h
      refine gh_sald gd_Law_law_335 q4702 q4703 ?_
      refine gh_aload_n gd_Law_law_336 0 rfl (by decide) ?_
      refine gh_iload_n gd_Law_law_337 3 rfl ?_
      refine gh_iconst gd_Law_law_338 (gh_r0 rfl) ?_
      obtain ⟨q4704, h⟩ := h
      refine gh_iadd gd_Law_law_339 q4704 ?_
      obtain ⟨q4705, h⟩ := h
      obtain ⟨q4706, h⟩ := h
      refine gh_sald gd_Law_law_340 q4705 q4706 ?_
      refine cv_House_name (d := d + 35) gd_Law_law_341 gh_k979 hF (Nat.le_of_ble_eq_true rfl) (gh_C.pw (s_House_name (d + 34) (m 1 (v3 + 1)) (m 1 (v3 + 2)) hF h) (fun r4707 h => ?_))
      refine gh_aload_n gd_Law_law_344 2 rfl (by decide) ?_
      refine gh_aload_n gd_Law_law_345 0 rfl (by decide) ?_
      refine gh_iload_n gd_Law_law_346 3 rfl ?_
      refine gh_iconst gd_Law_law_347 (gh_r0 rfl) ?_
      obtain ⟨q4709, h⟩ := h
      refine gh_iadd gd_Law_law_348 q4709 ?_
      obtain ⟨q4710, h⟩ := h
      obtain ⟨q4711, h⟩ := h
      refine gh_sald gd_Law_law_349 q4710 q4711 ?_
      refine gh_aload_n gd_Law_law_350 0 rfl (by decide) ?_
      refine gh_iload_n gd_Law_law_351 3 rfl ?_
      refine gh_iconst gd_Law_law_352 (gh_r0 rfl) ?_
      obtain ⟨q4712, h⟩ := h
      refine gh_iadd gd_Law_law_353 q4712 ?_
      obtain ⟨q4713, h⟩ := h
      obtain ⟨q4714, h⟩ := h
      refine gh_sald gd_Law_law_354 q4713 q4714 ?_
      refine cv_Model_name (d := d + 35) gd_Law_law_355 gh_k1809 hF (Nat.le_of_ble_eq_true rfl) (gh_C.pw (s_Model_name (d + 33) (m 1 (v3 + 1)) (m 1 (v3 + 2)) hF h) (fun r4715 h => ?_))
      obtain ⟨hA, hB⟩ := h
      refine gh_jeq (tgt := 1027) gd_Law_law_358 (by decide) (fun c4717 => ?_) (fun c4717 => ?_)
      · have h := hA c4717
        exact hJ1027 m hF h
      · have h := hB c4717
        refine gh_iconst gd_Law_law_361 (gh_r0 rfl) ?_
        exact gh_ret8 rfl gd_Law_law_362 (by decide) ⟨hF, h⟩
    obtain ⟨hA, h⟩ := h
    by_cases c4718 : (gh_iand_f (m 1 v3) 31) = 7
    · have h := hA c4718
      refine gh_tabIn (tgt := 363) gd_Law_law_33 (by rw [c4718]; decide) (by rw [c4718]; decide) (by rw [c4718]; rfl) (by decide) ?_
      refine gh_aload_n gd_Law_law_363 1 rfl (by decide) ?_
      refine gh_aload_n gd_Law_law_364 0 rfl (by decide) ?_
      refine gh_iload_n gd_Law_law_365 3 rfl ?_
      refine gh_iconst gd_Law_law_366 (gh_r0 rfl) ?_
      obtain ⟨q4719, h⟩ := h
      refine gh_iadd gd_Law_law_367 q4719 ?_
      obtain ⟨q4720, h⟩ := h
      obtain ⟨q4721, h⟩ := h
      refine gh_sald gd_Law_law_368 q4720 q4721 ?_
      refine gh_aload_n gd_Law_law_369 0 rfl (by decide) ?_
      refine gh_iload_n gd_Law_law_370 3 rfl ?_
      refine gh_iconst gd_Law_law_371 (gh_r0 rfl) ?_
      obtain ⟨q4722, h⟩ := h
      refine gh_iadd gd_Law_law_372 q4722 ?_
      obtain ⟨q4723, h⟩ := h
      obtain ⟨q4724, h⟩ := h
      refine gh_sald gd_Law_law_373 q4723 q4724 ?_
      refine cv_House_nameSign (d := d + 35) gd_Law_law_374 gh_k988 hF (Nat.le_of_ble_eq_true rfl) (gh_C.pw (s_House_nameSign (d + 34) (m 1 (v3 + 1)) (m 1 (v3 + 2)) hF h) (fun r4725 h => ?_))
      refine gh_aload_n gd_Law_law_377 2 rfl (by decide) ?_
      refine gh_aload_n gd_Law_law_378 0 rfl (by decide) ?_
      refine gh_iload_n gd_Law_law_379 3 rfl ?_
      refine gh_iconst gd_Law_law_380 (gh_r0 rfl) ?_
      obtain ⟨q4727, h⟩ := h
      refine gh_iadd gd_Law_law_381 q4727 ?_
      obtain ⟨q4728, h⟩ := h
      obtain ⟨q4729, h⟩ := h
      refine gh_sald gd_Law_law_382 q4728 q4729 ?_
      refine gh_aload_n gd_Law_law_383 0 rfl (by decide) ?_
      refine gh_iload_n gd_Law_law_384 3 rfl ?_
      refine gh_iconst gd_Law_law_385 (gh_r0 rfl) ?_
      obtain ⟨q4730, h⟩ := h
      refine gh_iadd gd_Law_law_386 q4730 ?_
      obtain ⟨q4731, h⟩ := h
      obtain ⟨q4732, h⟩ := h
      refine gh_sald gd_Law_law_387 q4731 q4732 ?_
      obtain ⟨q4733, h⟩ := h
      refine cv_Model_nameSign (d := d + 35) gd_Law_law_388 gh_k1824 hF (Nat.le_of_ble_eq_true rfl) (gh_C.pe (e_Model_nameSign (d + 33) (m 1 (v3 + 1)) (m 1 (v3 + 2)) hF q4733) ?_)
      obtain ⟨hA, hB⟩ := h
      refine gh_jeq (tgt := 1027) gd_Law_law_391 (by decide) (fun c4734 => ?_) (fun c4734 => ?_)
      · have h := hA c4734
        exact hJ1027 m hF h
      · have h := hB c4734
        refine gh_iconst gd_Law_law_394 (gh_r0 rfl) ?_
        exact gh_ret8 rfl gd_Law_law_395 (by decide) ⟨hF, h⟩
    obtain ⟨hA, h⟩ := h
    by_cases c4735 : (gh_iand_f (m 1 v3) 31) = 8
    · have h := hA c4735
      refine gh_tabIn (tgt := 396) gd_Law_law_33 (by rw [c4735]; decide) (by rw [c4735]; decide) (by rw [c4735]; rfl) (by decide) ?_
      refine gh_aload_n gd_Law_law_396 1 rfl (by decide) ?_
      refine gh_aload_n gd_Law_law_397 0 rfl (by decide) ?_
      refine gh_iload_n gd_Law_law_398 3 rfl ?_
      refine gh_iconst gd_Law_law_399 (gh_r0 rfl) ?_
      obtain ⟨q4736, h⟩ := h
      refine gh_iadd gd_Law_law_400 q4736 ?_
      obtain ⟨q4737, h⟩ := h
      obtain ⟨q4738, h⟩ := h
      refine gh_sald gd_Law_law_401 q4737 q4738 ?_
      refine gh_aload_n gd_Law_law_402 0 rfl (by decide) ?_
      refine gh_iload_n gd_Law_law_403 3 rfl ?_
      refine gh_iconst gd_Law_law_404 (gh_r0 rfl) ?_
      obtain ⟨q4739, h⟩ := h
      refine gh_iadd gd_Law_law_405 q4739 ?_
      obtain ⟨q4740, h⟩ := h
      obtain ⟨q4741, h⟩ := h
      refine gh_sald gd_Law_law_406 q4740 q4741 ?_
      obtain ⟨q4742, h⟩ := h
      refine cv_House_rule (d := d + 35) gd_Law_law_407 gh_k996 hF (Nat.le_of_ble_eq_true rfl) (gh_C.pe (e_House_rule (d + 34) (m 1 (v3 + 1)) (m 1 (v3 + 2)) hF q4742) ?_)
      refine gh_aload_n gd_Law_law_410 2 rfl (by decide) ?_
      refine gh_aload_n gd_Law_law_411 0 rfl (by decide) ?_
      refine gh_iload_n gd_Law_law_412 3 rfl ?_
      refine gh_iconst gd_Law_law_413 (gh_r0 rfl) ?_
      obtain ⟨q4743, h⟩ := h
      refine gh_iadd gd_Law_law_414 q4743 ?_
      obtain ⟨q4744, h⟩ := h
      obtain ⟨q4745, h⟩ := h
      refine gh_sald gd_Law_law_415 q4744 q4745 ?_
      refine gh_aload_n gd_Law_law_416 0 rfl (by decide) ?_
      refine gh_iload_n gd_Law_law_417 3 rfl ?_
      refine gh_iconst gd_Law_law_418 (gh_r0 rfl) ?_
      obtain ⟨q4746, h⟩ := h
      refine gh_iadd gd_Law_law_419 q4746 ?_
      obtain ⟨q4747, h⟩ := h
      obtain ⟨q4748, h⟩ := h
      refine gh_sald gd_Law_law_420 q4747 q4748 ?_
      obtain ⟨q4749, h⟩ := h
      refine cv_Model_rule (d := d + 35) gd_Law_law_421 gh_k1828 hF (Nat.le_of_ble_eq_true rfl) (gh_C.pe (e_Model_rule (d + 33) (m 1 (v3 + 1)) (m 1 (v3 + 2)) hF q4749) ?_)
      obtain ⟨hA, hB⟩ := h
      refine gh_jeq (tgt := 1027) gd_Law_law_424 (by decide) (fun c4750 => ?_) (fun c4750 => ?_)
      · have h := hA c4750
        exact hJ1027 m hF h
      · have h := hB c4750
        refine gh_iconst gd_Law_law_427 (gh_r0 rfl) ?_
        exact gh_ret8 rfl gd_Law_law_428 (by decide) ⟨hF, h⟩
    obtain ⟨hA, h⟩ := h
    by_cases c4751 : (gh_iand_f (m 1 v3) 31) = 9
    · have h := hA c4751
      refine gh_tabIn (tgt := 429) gd_Law_law_33 (by rw [c4751]; decide) (by rw [c4751]; decide) (by rw [c4751]; rfl) (by decide) ?_
      refine gh_aload_n gd_Law_law_429 1 rfl (by decide) ?_
      refine gh_aload_n gd_Law_law_430 0 rfl (by decide) ?_
      refine gh_iload_n gd_Law_law_431 3 rfl ?_
      refine gh_iconst gd_Law_law_432 (gh_r0 rfl) ?_
      obtain ⟨q4752, h⟩ := h
      refine gh_iadd gd_Law_law_433 q4752 ?_
      obtain ⟨q4753, h⟩ := h
      obtain ⟨q4754, h⟩ := h
      refine gh_sald gd_Law_law_434 q4753 q4754 ?_
      refine gh_aload_n gd_Law_law_435 0 rfl (by decide) ?_
      refine gh_iload_n gd_Law_law_436 3 rfl ?_
      refine gh_iconst gd_Law_law_437 (gh_r0 rfl) ?_
      obtain ⟨q4755, h⟩ := h
      refine gh_iadd gd_Law_law_438 q4755 ?_
      obtain ⟨q4756, h⟩ := h
      obtain ⟨q4757, h⟩ := h
      refine gh_sald gd_Law_law_439 q4756 q4757 ?_
      obtain ⟨q4758, h⟩ := h
      refine cv_House_part (d := d + 35) gd_Law_law_440 gh_k1004 hF (Nat.le_of_ble_eq_true rfl) (gh_C.pe (e_House_part (d + 34) (m 1 (v3 + 1)) (m 1 (v3 + 2)) hF q4758) ?_)
      refine gh_aload_n gd_Law_law_443 2 rfl (by decide) ?_
      refine gh_aload_n gd_Law_law_444 0 rfl (by decide) ?_
      refine gh_iload_n gd_Law_law_445 3 rfl ?_
      refine gh_iconst gd_Law_law_446 (gh_r0 rfl) ?_
      obtain ⟨q4759, h⟩ := h
      refine gh_iadd gd_Law_law_447 q4759 ?_
      obtain ⟨q4760, h⟩ := h
      obtain ⟨q4761, h⟩ := h
      refine gh_sald gd_Law_law_448 q4760 q4761 ?_
      refine gh_aload_n gd_Law_law_449 0 rfl (by decide) ?_
      refine gh_iload_n gd_Law_law_450 3 rfl ?_
      refine gh_iconst gd_Law_law_451 (gh_r0 rfl) ?_
      obtain ⟨q4762, h⟩ := h
      refine gh_iadd gd_Law_law_452 q4762 ?_
      obtain ⟨q4763, h⟩ := h
      obtain ⟨q4764, h⟩ := h
      refine gh_sald gd_Law_law_453 q4763 q4764 ?_
      obtain ⟨q4765, h⟩ := h
      refine cv_Model_part (d := d + 35) gd_Law_law_454 gh_k1836 hF (Nat.le_of_ble_eq_true rfl) (gh_C.pe (e_Model_part (d + 33) (m 1 (v3 + 1)) (m 1 (v3 + 2)) hF q4765) ?_)
      obtain ⟨hA, hB⟩ := h
      refine gh_jeq (tgt := 1027) gd_Law_law_457 (by decide) (fun c4766 => ?_) (fun c4766 => ?_)
      · have h := hA c4766
        exact hJ1027 m hF h
      · have h := hB c4766
        refine gh_iconst gd_Law_law_460 (gh_r0 rfl) ?_
        exact gh_ret8 rfl gd_Law_law_461 (by decide) ⟨hF, h⟩
    obtain ⟨hA, h⟩ := h
    by_cases c4767 : (gh_iand_f (m 1 v3) 31) = 10
    · have h := hA c4767
      refine gh_tabIn (tgt := 462) gd_Law_law_33 (by rw [c4767]; decide) (by rw [c4767]; decide) (by rw [c4767]; rfl) (by decide) ?_
      refine gh_aload_n gd_Law_law_462 1 rfl (by decide) ?_
      refine gh_aload_n gd_Law_law_463 0 rfl (by decide) ?_
      refine gh_iload_n gd_Law_law_464 3 rfl ?_
      refine gh_iconst gd_Law_law_465 (gh_r0 rfl) ?_
      obtain ⟨q4768, h⟩ := h
      refine gh_iadd gd_Law_law_466 q4768 ?_
      obtain ⟨q4769, h⟩ := h
      obtain ⟨q4770, h⟩ := h
      refine gh_sald gd_Law_law_467 q4769 q4770 ?_
      obtain ⟨q4771, h⟩ := h
      refine cv_House_first (d := d + 35) gd_Law_law_468 gh_k1009 hF (Nat.le_of_ble_eq_true rfl) (gh_C.pe (e_House_first (d + 34) (m 1 (v3 + 1)) hF q4771) ?_)
      refine gh_aload_n gd_Law_law_471 2 rfl (by decide) ?_
      refine gh_aload_n gd_Law_law_472 0 rfl (by decide) ?_
      refine gh_iload_n gd_Law_law_473 3 rfl ?_
      refine gh_iconst gd_Law_law_474 (gh_r0 rfl) ?_
      obtain ⟨q4772, h⟩ := h
      refine gh_iadd gd_Law_law_475 q4772 ?_
      obtain ⟨q4773, h⟩ := h
      obtain ⟨q4774, h⟩ := h
      refine gh_sald gd_Law_law_476 q4773 q4774 ?_
      obtain ⟨q4775, h⟩ := h
      refine cv_Model_first (d := d + 35) gd_Law_law_477 gh_k1840 hF (Nat.le_of_ble_eq_true rfl) (gh_C.pe (e_Model_first (d + 33) (m 1 (v3 + 1)) hF q4775) ?_)
      obtain ⟨hA, hB⟩ := h
      refine gh_jeq (tgt := 1027) gd_Law_law_480 (by decide) (fun c4776 => ?_) (fun c4776 => ?_)
      · have h := hA c4776
        exact hJ1027 m hF h
      · have h := hB c4776
        refine gh_iconst gd_Law_law_483 (gh_r0 rfl) ?_
        exact gh_ret8 rfl gd_Law_law_484 (by decide) ⟨hF, h⟩
    obtain ⟨hA, h⟩ := h
    by_cases c4777 : (gh_iand_f (m 1 v3) 31) = 11
    · have h := hA c4777
      refine gh_tabIn (tgt := 485) gd_Law_law_33 (by rw [c4777]; decide) (by rw [c4777]; decide) (by rw [c4777]; rfl) (by decide) ?_
      refine gh_aload_n gd_Law_law_485 1 rfl (by decide) ?_
      refine gh_aload_n gd_Law_law_486 0 rfl (by decide) ?_
      refine gh_iload_n gd_Law_law_487 3 rfl ?_
      refine gh_iconst gd_Law_law_488 (gh_r0 rfl) ?_
      obtain ⟨q4778, h⟩ := h
      refine gh_iadd gd_Law_law_489 q4778 ?_
      obtain ⟨q4779, h⟩ := h
      obtain ⟨q4780, h⟩ := h
      refine gh_sald gd_Law_law_490 q4779 q4780 ?_
      obtain ⟨q4781, h⟩ := h
      refine cv_House_follow (d := d + 35) gd_Law_law_491 gh_k1013 hF (Nat.le_of_ble_eq_true rfl) (gh_C.pe (e_House_follow (d + 34) (m 1 (v3 + 1)) hF q4781) ?_)
      refine gh_aload_n gd_Law_law_494 2 rfl (by decide) ?_
      refine gh_aload_n gd_Law_law_495 0 rfl (by decide) ?_
      refine gh_iload_n gd_Law_law_496 3 rfl ?_
      refine gh_iconst gd_Law_law_497 (gh_r0 rfl) ?_
      obtain ⟨q4782, h⟩ := h
      refine gh_iadd gd_Law_law_498 q4782 ?_
      obtain ⟨q4783, h⟩ := h
      obtain ⟨q4784, h⟩ := h
      refine gh_sald gd_Law_law_499 q4783 q4784 ?_
      obtain ⟨q4785, h⟩ := h
      refine cv_Model_follow (d := d + 35) gd_Law_law_500 gh_k1844 hF (Nat.le_of_ble_eq_true rfl) (gh_C.pe (e_Model_follow (d + 33) (m 1 (v3 + 1)) hF q4785) ?_)
      obtain ⟨hA, hB⟩ := h
      refine gh_jeq (tgt := 1027) gd_Law_law_503 (by decide) (fun c4786 => ?_) (fun c4786 => ?_)
      · have h := hA c4786
        exact hJ1027 m hF h
      · have h := hB c4786
        refine gh_iconst gd_Law_law_506 (gh_r0 rfl) ?_
        exact gh_ret8 rfl gd_Law_law_507 (by decide) ⟨hF, h⟩
    obtain ⟨hA, h⟩ := h
    by_cases c4787 : (gh_iand_f (m 1 v3) 31) = 12
    · have h := hA c4787
      refine gh_tabIn (tgt := 508) gd_Law_law_33 (by rw [c4787]; decide) (by rw [c4787]; decide) (by rw [c4787]; rfl) (by decide) ?_
      refine gh_aload_n gd_Law_law_508 1 rfl (by decide) ?_
      refine gh_aload_n gd_Law_law_509 0 rfl (by decide) ?_
      refine gh_iload_n gd_Law_law_510 3 rfl ?_
      refine gh_iconst gd_Law_law_511 (gh_r0 rfl) ?_
      obtain ⟨q4788, h⟩ := h
      refine gh_iadd gd_Law_law_512 q4788 ?_
      obtain ⟨q4789, h⟩ := h
      obtain ⟨q4790, h⟩ := h
      refine gh_sald gd_Law_law_513 q4789 q4790 ?_
      refine gh_aload_n gd_Law_law_514 0 rfl (by decide) ?_
      refine gh_iload_n gd_Law_law_515 3 rfl ?_
      refine gh_iconst gd_Law_law_516 (gh_r0 rfl) ?_
      obtain ⟨q4791, h⟩ := h
      refine gh_iadd gd_Law_law_517 q4791 ?_
      obtain ⟨q4792, h⟩ := h
      obtain ⟨q4793, h⟩ := h
      refine gh_sald gd_Law_law_518 q4792 q4793 ?_
      refine cv_House_table (d := d + 35) gd_Law_law_519 gh_k1017 hF (Nat.le_of_ble_eq_true rfl) (gh_C.pw (s_House_table (d + 33) (m 1 (v3 + 1)) (m 1 (v3 + 2)) hF h) (fun r4794 h => ?_))
      refine gh_aload_n gd_Law_law_522 2 rfl (by decide) ?_
      refine gh_aload_n gd_Law_law_523 0 rfl (by decide) ?_
      refine gh_iload_n gd_Law_law_524 3 rfl ?_
      refine gh_iconst gd_Law_law_525 (gh_r0 rfl) ?_
      obtain ⟨q4796, h⟩ := h
      refine gh_iadd gd_Law_law_526 q4796 ?_
      obtain ⟨q4797, h⟩ := h
      obtain ⟨q4798, h⟩ := h
      refine gh_sald gd_Law_law_527 q4797 q4798 ?_
      refine gh_aload_n gd_Law_law_528 0 rfl (by decide) ?_
      refine gh_iload_n gd_Law_law_529 3 rfl ?_
      refine gh_iconst gd_Law_law_530 (gh_r0 rfl) ?_
      obtain ⟨q4799, h⟩ := h
      refine gh_iadd gd_Law_law_531 q4799 ?_
      obtain ⟨q4800, h⟩ := h
      obtain ⟨q4801, h⟩ := h
      refine gh_sald gd_Law_law_532 q4800 q4801 ?_
      refine cv_Model_table (d := d + 35) gd_Law_law_533 gh_k1848 hF (Nat.le_of_ble_eq_true rfl) (gh_C.pw (s_Model_table (d + 33) (m 1 (v3 + 1)) (m 1 (v3 + 2)) hF h) (fun r4802 h => ?_))
      obtain ⟨hA, hB⟩ := h
      refine gh_jeq (tgt := 1027) gd_Law_law_536 (by decide) (fun c4804 => ?_) (fun c4804 => ?_)
      · have h := hA c4804
        exact hJ1027 m hF h
      · have h := hB c4804
        refine gh_iconst gd_Law_law_539 (gh_r0 rfl) ?_
        exact gh_ret8 rfl gd_Law_law_540 (by decide) ⟨hF, h⟩
    obtain ⟨hA, h⟩ := h
    by_cases c4805 : (gh_iand_f (m 1 v3) 31) = 13
    · have h := hA c4805
      refine gh_tabIn (tgt := 541) gd_Law_law_33 (by rw [c4805]; decide) (by rw [c4805]; decide) (by rw [c4805]; rfl) (by decide) ?_
      refine gh_aload_n gd_Law_law_541 1 rfl (by decide) ?_
      refine gh_aload_n gd_Law_law_542 0 rfl (by decide) ?_
      refine gh_iload_n gd_Law_law_543 3 rfl ?_
      refine gh_iconst gd_Law_law_544 (gh_r0 rfl) ?_
      obtain ⟨q4806, h⟩ := h
      refine gh_iadd gd_Law_law_545 q4806 ?_
      obtain ⟨q4807, h⟩ := h
      obtain ⟨q4808, h⟩ := h
      refine gh_sald gd_Law_law_546 q4807 q4808 ?_
      refine cv_House_put (d := d + 35) gd_Law_law_547 gh_k1025 hF (Nat.le_of_ble_eq_true rfl) (gh_C.mono (s_House_put (d + 32) (m 1 (v3 + 1)) hF h) (fun r4809 m4810 hq => ?_))
      obtain ⟨hF, h⟩ := hq
      refine gh_aload_n gd_Law_law_550 2 rfl (by decide) ?_
      refine gh_aload_n gd_Law_law_551 0 rfl (by decide) ?_
      refine gh_iload_n gd_Law_law_552 3 rfl ?_
      refine gh_iconst gd_Law_law_553 (gh_r0 rfl) ?_
      obtain ⟨q4811, h⟩ := h
      refine gh_iadd gd_Law_law_554 q4811 ?_
      obtain ⟨q4812, h⟩ := h
      obtain ⟨q4813, h⟩ := h
      refine gh_sald gd_Law_law_555 q4812 q4813 ?_
      refine cv_Model_put (d := d + 35) gd_Law_law_556 gh_k1880 hF (Nat.le_of_ble_eq_true rfl) (gh_C.mono (s_Model_put (d + 34) (m4810 1 (v3 + 1)) hF h) (fun r4814 m4815 hq => ?_))
      obtain ⟨hF, h⟩ := hq
      obtain ⟨hA, hB⟩ := h
      refine gh_jeq (tgt := 1027) gd_Law_law_559 (by decide) (fun c4816 => ?_) (fun c4816 => ?_)
      · have h := hA c4816
        exact hJ1027 m4815 hF h
      · have h := hB c4816
        refine gh_iconst gd_Law_law_562 (gh_r0 rfl) ?_
        exact gh_ret8 rfl gd_Law_law_563 (by decide) ⟨hF, h⟩
    obtain ⟨hA, h⟩ := h
    by_cases c4817 : (gh_iand_f (m 1 v3) 31) = 14
    · have h := hA c4817
      refine gh_tabIn (tgt := 564) gd_Law_law_33 (by rw [c4817]; decide) (by rw [c4817]; decide) (by rw [c4817]; rfl) (by decide) ?_
      refine gh_aload_n gd_Law_law_564 1 rfl (by decide) ?_
      refine gh_aload_n gd_Law_law_565 0 rfl (by decide) ?_
      refine gh_iload_n gd_Law_law_566 3 rfl ?_
      refine gh_iconst gd_Law_law_567 (gh_r0 rfl) ?_
      obtain ⟨q4818, h⟩ := h
      refine gh_iadd gd_Law_law_568 q4818 ?_
      obtain ⟨q4819, h⟩ := h
      obtain ⟨q4820, h⟩ := h
      refine gh_sald gd_Law_law_569 q4819 q4820 ?_
      refine cv_House_back (d := d + 35) gd_Law_law_570 gh_k1029 hF (Nat.le_of_ble_eq_true rfl) (gh_C.mono (s_House_back (d + 32) (m 1 (v3 + 1)) hF h) (fun r4821 m4822 hq => ?_))
      obtain ⟨hF, h⟩ := hq
      refine gh_aload_n gd_Law_law_573 2 rfl (by decide) ?_
      refine gh_aload_n gd_Law_law_574 0 rfl (by decide) ?_
      refine gh_iload_n gd_Law_law_575 3 rfl ?_
      refine gh_iconst gd_Law_law_576 (gh_r0 rfl) ?_
      obtain ⟨q4823, h⟩ := h
      refine gh_iadd gd_Law_law_577 q4823 ?_
      obtain ⟨q4824, h⟩ := h
      obtain ⟨q4825, h⟩ := h
      refine gh_sald gd_Law_law_578 q4824 q4825 ?_
      refine cv_Model_back (d := d + 35) gd_Law_law_579 gh_k1884 hF (Nat.le_of_ble_eq_true rfl) (gh_C.mono (s_Model_back (d + 34) (m4822 1 (v3 + 1)) hF h) (fun r4826 m4827 hq => ?_))
      obtain ⟨hF, h⟩ := hq
      obtain ⟨hA, hB⟩ := h
      refine gh_jeq (tgt := 1027) gd_Law_law_582 (by decide) (fun c4828 => ?_) (fun c4828 => ?_)
      · have h := hA c4828
        exact hJ1027 m4827 hF h
      · have h := hB c4828
        refine gh_iconst gd_Law_law_585 (gh_r0 rfl) ?_
        exact gh_ret8 rfl gd_Law_law_586 (by decide) ⟨hF, h⟩
    obtain ⟨hA, h⟩ := h
    by_cases c4829 : (gh_iand_f (m 1 v3) 31) = 15
    · have h := hA c4829
      refine gh_tabIn (tgt := 587) gd_Law_law_33 (by rw [c4829]; decide) (by rw [c4829]; decide) (by rw [c4829]; rfl) (by decide) ?_
      refine gh_aload_n gd_Law_law_587 1 rfl (by decide) ?_
      refine gh_aload_n gd_Law_law_588 0 rfl (by decide) ?_
      refine gh_iload_n gd_Law_law_589 3 rfl ?_
      refine gh_iconst gd_Law_law_590 (gh_r0 rfl) ?_
      obtain ⟨q4830, h⟩ := h
      refine gh_iadd gd_Law_law_591 q4830 ?_
      obtain ⟨q4831, h⟩ := h
      obtain ⟨q4832, h⟩ := h
      refine gh_sald gd_Law_law_592 q4831 q4832 ?_
      refine cv_House_made (d := d + 35) gd_Law_law_593 gh_k1033 hF (Nat.le_of_ble_eq_true rfl) (gh_C.mono (s_House_made (d + 32) (m 1 (v3 + 1)) hF h) (fun r4833 m4834 hq => ?_))
      obtain ⟨hF, h⟩ := hq
      refine gh_aload_n gd_Law_law_596 2 rfl (by decide) ?_
      refine gh_aload_n gd_Law_law_597 0 rfl (by decide) ?_
      refine gh_iload_n gd_Law_law_598 3 rfl ?_
      refine gh_iconst gd_Law_law_599 (gh_r0 rfl) ?_
      obtain ⟨q4835, h⟩ := h
      refine gh_iadd gd_Law_law_600 q4835 ?_
      obtain ⟨q4836, h⟩ := h
      obtain ⟨q4837, h⟩ := h
      refine gh_sald gd_Law_law_601 q4836 q4837 ?_
      refine cv_Model_made (d := d + 35) gd_Law_law_602 gh_k2034 hF (Nat.le_of_ble_eq_true rfl) (gh_C.mono (s_Model_made (d + 33) (m4834 1 (v3 + 1)) hF h) (fun r4838 m4839 hq => ?_))
      obtain ⟨hF, h⟩ := hq
      obtain ⟨hA, hB⟩ := h
      refine gh_jeq (tgt := 1027) gd_Law_law_605 (by decide) (fun c4840 => ?_) (fun c4840 => ?_)
      · have h := hA c4840
        exact hJ1027 m4839 hF h
      · have h := hB c4840
        refine gh_iconst gd_Law_law_608 (gh_r0 rfl) ?_
        exact gh_ret8 rfl gd_Law_law_609 (by decide) ⟨hF, h⟩
    obtain ⟨hA, h⟩ := h
    by_cases c4841 : (gh_iand_f (m 1 v3) 31) = 16
    · have h := hA c4841
      refine gh_tabIn (tgt := 610) gd_Law_law_33 (by rw [c4841]; decide) (by rw [c4841]; decide) (by rw [c4841]; rfl) (by decide) ?_
      refine gh_aload_n gd_Law_law_610 1 rfl (by decide) ?_
      refine gh_aload_n gd_Law_law_611 0 rfl (by decide) ?_
      refine gh_iload_n gd_Law_law_612 3 rfl ?_
      refine gh_iconst gd_Law_law_613 (gh_r0 rfl) ?_
      obtain ⟨q4842, h⟩ := h
      refine gh_iadd gd_Law_law_614 q4842 ?_
      obtain ⟨q4843, h⟩ := h
      obtain ⟨q4844, h⟩ := h
      refine gh_sald gd_Law_law_615 q4843 q4844 ?_
      obtain ⟨q4845, h⟩ := h
      refine cv_House_letter (d := d + 35) gd_Law_law_616 gh_k1065 hF (Nat.le_of_ble_eq_true rfl) (gh_C.pe (e_House_letter (d + 35) (m 1 (v3 + 1)) hF q4845) ?_)
      refine gh_aload_n gd_Law_law_619 2 rfl (by decide) ?_
      refine gh_aload_n gd_Law_law_620 0 rfl (by decide) ?_
      refine gh_iload_n gd_Law_law_621 3 rfl ?_
      refine gh_iconst gd_Law_law_622 (gh_r0 rfl) ?_
      obtain ⟨q4846, h⟩ := h
      refine gh_iadd gd_Law_law_623 q4846 ?_
      obtain ⟨q4847, h⟩ := h
      obtain ⟨q4848, h⟩ := h
      refine gh_sald gd_Law_law_624 q4847 q4848 ?_
      obtain ⟨q4849, h⟩ := h
      refine cv_Model_letter (d := d + 35) gd_Law_law_625 gh_k1888 hF (Nat.le_of_ble_eq_true rfl) (gh_C.pe (e_Model_letter (d + 34) (m 1 (v3 + 1)) hF q4849) ?_)
      obtain ⟨hA, hB⟩ := h
      refine gh_jeq (tgt := 1027) gd_Law_law_628 (by decide) (fun c4850 => ?_) (fun c4850 => ?_)
      · have h := hA c4850
        exact hJ1027 m hF h
      · have h := hB c4850
        refine gh_iconst gd_Law_law_631 (gh_r0 rfl) ?_
        exact gh_ret8 rfl gd_Law_law_632 (by decide) ⟨hF, h⟩
    obtain ⟨hA, h⟩ := h
    by_cases c4851 : (gh_iand_f (m 1 v3) 31) = 17
    · have h := hA c4851
      refine gh_tabIn (tgt := 633) gd_Law_law_33 (by rw [c4851]; decide) (by rw [c4851]; decide) (by rw [c4851]; rfl) (by decide) ?_
      refine gh_aload_n gd_Law_law_633 1 rfl (by decide) ?_
      refine gh_aload_n gd_Law_law_634 0 rfl (by decide) ?_
      refine gh_iload_n gd_Law_law_635 3 rfl ?_
      refine gh_iconst gd_Law_law_636 (gh_r0 rfl) ?_
      obtain ⟨q4852, h⟩ := h
      refine gh_iadd gd_Law_law_637 q4852 ?_
      obtain ⟨q4853, h⟩ := h
      obtain ⟨q4854, h⟩ := h
      refine gh_sald gd_Law_law_638 q4853 q4854 ?_
      refine cv_House_accepts (d := d + 35) gd_Law_law_639 gh_k1069 hF (Nat.le_of_ble_eq_true rfl) (gh_C.mono (s_House_accepts (d + 29) (m 1 (v3 + 1)) hF h) (fun r4855 m4856 hq => ?_))
      obtain ⟨hF, h⟩ := hq
      refine gh_aload_n gd_Law_law_642 2 rfl (by decide) ?_
      refine gh_aload_n gd_Law_law_643 0 rfl (by decide) ?_
      refine gh_iload_n gd_Law_law_644 3 rfl ?_
      refine gh_iconst gd_Law_law_645 (gh_r0 rfl) ?_
      obtain ⟨q4857, h⟩ := h
      refine gh_iadd gd_Law_law_646 q4857 ?_
      obtain ⟨q4858, h⟩ := h
      obtain ⟨q4859, h⟩ := h
      refine gh_sald gd_Law_law_647 q4858 q4859 ?_
      refine cv_Model_accepts (d := d + 35) gd_Law_law_648 gh_k1892 hF (Nat.le_of_ble_eq_true rfl) (gh_C.mono (s_Model_accepts (d + 32) (m4856 1 (v3 + 1)) hF h) (fun r4860 m4861 hq => ?_))
      obtain ⟨hF, h⟩ := hq
      obtain ⟨hA, hB⟩ := h
      refine gh_jeq (tgt := 1027) gd_Law_law_651 (by decide) (fun c4862 => ?_) (fun c4862 => ?_)
      · have h := hA c4862
        exact hJ1027 m4861 hF h
      · have h := hB c4862
        refine gh_iconst gd_Law_law_654 (gh_r0 rfl) ?_
        exact gh_ret8 rfl gd_Law_law_655 (by decide) ⟨hF, h⟩
    obtain ⟨hA, h⟩ := h
    by_cases c4863 : (gh_iand_f (m 1 v3) 31) = 18
    · have h := hA c4863
      refine gh_tabIn (tgt := 656) gd_Law_law_33 (by rw [c4863]; decide) (by rw [c4863]; decide) (by rw [c4863]; rfl) (by decide) ?_
      refine gh_aload_n gd_Law_law_656 1 rfl (by decide) ?_
      refine gh_aload_n gd_Law_law_657 0 rfl (by decide) ?_
      refine gh_iload_n gd_Law_law_658 3 rfl ?_
      refine gh_iconst gd_Law_law_659 (gh_r0 rfl) ?_
      obtain ⟨q4864, h⟩ := h
      refine gh_iadd gd_Law_law_660 q4864 ?_
      obtain ⟨q4865, h⟩ := h
      obtain ⟨q4866, h⟩ := h
      refine gh_sald gd_Law_law_661 q4865 q4866 ?_
      refine cv_House_next (d := d + 35) gd_Law_law_662 gh_k1121 hF (Nat.le_of_ble_eq_true rfl) (gh_C.mono (s_House_next (d + 29) (m 1 (v3 + 1)) hF h) (fun r4867 m4868 hq => ?_))
      obtain ⟨hF, h⟩ := hq
      refine gh_aload_n gd_Law_law_665 2 rfl (by decide) ?_
      refine gh_aload_n gd_Law_law_666 0 rfl (by decide) ?_
      refine gh_iload_n gd_Law_law_667 3 rfl ?_
      refine gh_iconst gd_Law_law_668 (gh_r0 rfl) ?_
      obtain ⟨q4869, h⟩ := h
      refine gh_iadd gd_Law_law_669 q4869 ?_
      obtain ⟨q4870, h⟩ := h
      obtain ⟨q4871, h⟩ := h
      refine gh_sald gd_Law_law_670 q4870 q4871 ?_
      refine cv_Model_next2 (d := d + 35) gd_Law_law_671 gh_k1919 hF (Nat.le_of_ble_eq_true rfl) (gh_C.mono (s_Model_next2 (d + 32) (m4868 1 (v3 + 1)) hF h) (fun r4872 m4873 hq => ?_))
      obtain ⟨hF, h⟩ := hq
      obtain ⟨hA, hB⟩ := h
      refine gh_jeq (tgt := 1027) gd_Law_law_674 (by decide) (fun c4874 => ?_) (fun c4874 => ?_)
      · have h := hA c4874
        exact hJ1027 m4873 hF h
      · have h := hB c4874
        refine gh_iconst gd_Law_law_677 (gh_r0 rfl) ?_
        exact gh_ret8 rfl gd_Law_law_678 (by decide) ⟨hF, h⟩
    obtain ⟨hA, h⟩ := h
    by_cases c4875 : (gh_iand_f (m 1 v3) 31) = 19
    · have h := hA c4875
      refine gh_tabIn (tgt := 679) gd_Law_law_33 (by rw [c4875]; decide) (by rw [c4875]; decide) (by rw [c4875]; rfl) (by decide) ?_
      refine gh_aload_n gd_Law_law_679 1 rfl (by decide) ?_
      refine gh_aload_n gd_Law_law_680 0 rfl (by decide) ?_
      refine gh_iload_n gd_Law_law_681 3 rfl ?_
      refine gh_iconst gd_Law_law_682 (gh_r0 rfl) ?_
      obtain ⟨q4876, h⟩ := h
      refine gh_iadd gd_Law_law_683 q4876 ?_
      obtain ⟨q4877, h⟩ := h
      obtain ⟨q4878, h⟩ := h
      refine gh_sald gd_Law_law_684 q4877 q4878 ?_
      refine cv_House_items (d := d + 35) gd_Law_law_685 gh_k1125 hF (Nat.le_of_ble_eq_true rfl) (gh_C.mono (s_House_items (d + 29) (m 1 (v3 + 1)) hF h) (fun r4879 m4880 hq => ?_))
      obtain ⟨hF, h⟩ := hq
      refine gh_aload_n gd_Law_law_688 2 rfl (by decide) ?_
      refine gh_aload_n gd_Law_law_689 0 rfl (by decide) ?_
      refine gh_iload_n gd_Law_law_690 3 rfl ?_
      refine gh_iconst gd_Law_law_691 (gh_r0 rfl) ?_
      obtain ⟨q4881, h⟩ := h
      refine gh_iadd gd_Law_law_692 q4881 ?_
      obtain ⟨q4882, h⟩ := h
      obtain ⟨q4883, h⟩ := h
      refine gh_sald gd_Law_law_693 q4882 q4883 ?_
      refine cv_Model_items (d := d + 35) gd_Law_law_694 gh_k1923 hF (Nat.le_of_ble_eq_true rfl) (gh_C.mono (s_Model_items (d + 32) (m4880 1 (v3 + 1)) hF h) (fun r4884 m4885 hq => ?_))
      obtain ⟨hF, h⟩ := hq
      obtain ⟨hA, hB⟩ := h
      refine gh_jeq (tgt := 1027) gd_Law_law_697 (by decide) (fun c4886 => ?_) (fun c4886 => ?_)
      · have h := hA c4886
        exact hJ1027 m4885 hF h
      · have h := hB c4886
        refine gh_iconst gd_Law_law_700 (gh_r0 rfl) ?_
        exact gh_ret8 rfl gd_Law_law_701 (by decide) ⟨hF, h⟩
    obtain ⟨hA, h⟩ := h
    by_cases c4887 : (gh_iand_f (m 1 v3) 31) = 20
    · have h := hA c4887
      refine gh_tabIn (tgt := 702) gd_Law_law_33 (by rw [c4887]; decide) (by rw [c4887]; decide) (by rw [c4887]; rfl) (by decide) ?_
      refine gh_aload_n gd_Law_law_702 1 rfl (by decide) ?_
      refine gh_aload_n gd_Law_law_703 0 rfl (by decide) ?_
      refine gh_iload_n gd_Law_law_704 3 rfl ?_
      refine gh_iconst gd_Law_law_705 (gh_r0 rfl) ?_
      obtain ⟨q4888, h⟩ := h
      refine gh_iadd gd_Law_law_706 q4888 ?_
      obtain ⟨q4889, h⟩ := h
      obtain ⟨q4890, h⟩ := h
      refine gh_sald gd_Law_law_707 q4889 q4890 ?_
      refine gh_aload_n gd_Law_law_708 0 rfl (by decide) ?_
      refine gh_iload_n gd_Law_law_709 3 rfl ?_
      refine gh_iconst gd_Law_law_710 (gh_r0 rfl) ?_
      obtain ⟨q4891, h⟩ := h
      refine gh_iadd gd_Law_law_711 q4891 ?_
      obtain ⟨q4892, h⟩ := h
      obtain ⟨q4893, h⟩ := h
      refine gh_sald gd_Law_law_712 q4892 q4893 ?_
      refine gh_aload_n gd_Law_law_713 0 rfl (by decide) ?_
      refine gh_iload_n gd_Law_law_714 3 rfl ?_
      refine gh_iconst gd_Law_law_715 (gh_r0 rfl) ?_
      obtain ⟨q4894, h⟩ := h
      refine gh_iadd gd_Law_law_716 q4894 ?_
      obtain ⟨q4895, h⟩ := h
      obtain ⟨q4896, h⟩ := h
      refine gh_sald gd_Law_law_717 q4895 q4896 ?_
      refine gh_aload_n gd_Law_law_718 0 rfl (by decide) ?_
      refine gh_iload_n gd_Law_law_719 3 rfl ?_
      refine gh_iconst gd_Law_law_720 (gh_r0 rfl) ?_
      obtain ⟨q4897, h⟩ := h
      refine gh_iadd gd_Law_law_721 q4897 ?_
      obtain ⟨q4898, h⟩ := h
      obtain ⟨q4899, h⟩ := h
      refine gh_sald gd_Law_law_722 q4898 q4899 ?_
      refine cv_House_isItem (d := d + 35) gd_Law_law_723 gh_k1129 hF (Nat.le_of_ble_eq_true rfl) (gh_C.mono (s_House_isItem (d + 29) (m 1 (v3 + 1)) (m 1 (v3 + 2)) (m 1 (v3 + 3)) (m 1 (v3 + 4)) hF h) (fun r4900 m4901 hq => ?_))
      obtain ⟨hF, h⟩ := hq
      refine gh_aload_n gd_Law_law_726 2 rfl (by decide) ?_
      refine gh_aload_n gd_Law_law_727 0 rfl (by decide) ?_
      refine gh_iload_n gd_Law_law_728 3 rfl ?_
      refine gh_iconst gd_Law_law_729 (gh_r0 rfl) ?_
      obtain ⟨q4902, h⟩ := h
      refine gh_iadd gd_Law_law_730 q4902 ?_
      obtain ⟨q4903, h⟩ := h
      obtain ⟨q4904, h⟩ := h
      refine gh_sald gd_Law_law_731 q4903 q4904 ?_
      refine gh_aload_n gd_Law_law_732 0 rfl (by decide) ?_
      refine gh_iload_n gd_Law_law_733 3 rfl ?_
      refine gh_iconst gd_Law_law_734 (gh_r0 rfl) ?_
      obtain ⟨q4905, h⟩ := h
      refine gh_iadd gd_Law_law_735 q4905 ?_
      obtain ⟨q4906, h⟩ := h
      obtain ⟨q4907, h⟩ := h
      refine gh_sald gd_Law_law_736 q4906 q4907 ?_
      refine gh_aload_n gd_Law_law_737 0 rfl (by decide) ?_
      refine gh_iload_n gd_Law_law_738 3 rfl ?_
      refine gh_iconst gd_Law_law_739 (gh_r0 rfl) ?_
      obtain ⟨q4908, h⟩ := h
      refine gh_iadd gd_Law_law_740 q4908 ?_
      obtain ⟨q4909, h⟩ := h
      obtain ⟨q4910, h⟩ := h
      refine gh_sald gd_Law_law_741 q4909 q4910 ?_
      refine gh_aload_n gd_Law_law_742 0 rfl (by decide) ?_
      refine gh_iload_n gd_Law_law_743 3 rfl ?_
      refine gh_iconst gd_Law_law_744 (gh_r0 rfl) ?_
      obtain ⟨q4911, h⟩ := h
      refine gh_iadd gd_Law_law_745 q4911 ?_
      obtain ⟨q4912, h⟩ := h
      obtain ⟨q4913, h⟩ := h
      refine gh_sald gd_Law_law_746 q4912 q4913 ?_
      refine cv_Model_isItem (d := d + 35) gd_Law_law_747 gh_k1931 hF (Nat.le_of_ble_eq_true rfl) (gh_C.mono (s_Model_isItem (d + 32) (m4901 1 (v3 + 1)) (m4901 1 (v3 + 2)) (m4901 1 (v3 + 3)) (m4901 1 (v3 + 4)) hF h) (fun r4914 m4915 hq => ?_))
      obtain ⟨hF, h⟩ := hq
      obtain ⟨hA, hB⟩ := h
      refine gh_jeq (tgt := 1027) gd_Law_law_750 (by decide) (fun c4916 => ?_) (fun c4916 => ?_)
      · have h := hA c4916
        exact hJ1027 m4915 hF h
      · have h := hB c4916
        refine gh_iconst gd_Law_law_753 (gh_r0 rfl) ?_
        exact gh_ret8 rfl gd_Law_law_754 (by decide) ⟨hF, h⟩
    obtain ⟨hA, h⟩ := h
    by_cases c4917 : (gh_iand_f (m 1 v3) 31) = 21
    · have h := hA c4917
      refine gh_tabIn (tgt := 755) gd_Law_law_33 (by rw [c4917]; decide) (by rw [c4917]; decide) (by rw [c4917]; rfl) (by decide) ?_
      refine gh_aload_n gd_Law_law_755 1 rfl (by decide) ?_
      refine gh_aload_n gd_Law_law_756 0 rfl (by decide) ?_
      refine gh_iload_n gd_Law_law_757 3 rfl ?_
      refine gh_iconst gd_Law_law_758 (gh_r0 rfl) ?_
      obtain ⟨q4918, h⟩ := h
      refine gh_iadd gd_Law_law_759 q4918 ?_
      obtain ⟨q4919, h⟩ := h
      obtain ⟨q4920, h⟩ := h
      refine gh_sald gd_Law_law_760 q4919 q4920 ?_
      refine gh_aload_n gd_Law_law_761 0 rfl (by decide) ?_
      refine gh_iload_n gd_Law_law_762 3 rfl ?_
      refine gh_iconst gd_Law_law_763 (gh_r0 rfl) ?_
      obtain ⟨q4921, h⟩ := h
      refine gh_iadd gd_Law_law_764 q4921 ?_
      obtain ⟨q4922, h⟩ := h
      obtain ⟨q4923, h⟩ := h
      refine gh_sald gd_Law_law_765 q4922 q4923 ?_
      refine gh_aload_n gd_Law_law_766 0 rfl (by decide) ?_
      refine gh_iload_n gd_Law_law_767 3 rfl ?_
      refine gh_iconst gd_Law_law_768 (gh_r0 rfl) ?_
      obtain ⟨q4924, h⟩ := h
      refine gh_iadd gd_Law_law_769 q4924 ?_
      obtain ⟨q4925, h⟩ := h
      obtain ⟨q4926, h⟩ := h
      refine gh_sald gd_Law_law_770 q4925 q4926 ?_
      refine cv_House_makes (d := d + 35) gd_Law_law_771 gh_k1137 hF (Nat.le_of_ble_eq_true rfl) (gh_C.mono (s_House_makes (d + 29) (m 1 (v3 + 1)) (m 1 (v3 + 2)) (m 1 (v3 + 3)) hF h) (fun r4927 m4928 hq => ?_))
      obtain ⟨hF, h⟩ := hq
      refine gh_aload_n gd_Law_law_774 2 rfl (by decide) ?_
      refine gh_aload_n gd_Law_law_775 0 rfl (by decide) ?_
      refine gh_iload_n gd_Law_law_776 3 rfl ?_
      refine gh_iconst gd_Law_law_777 (gh_r0 rfl) ?_
      obtain ⟨q4929, h⟩ := h
      refine gh_iadd gd_Law_law_778 q4929 ?_
      obtain ⟨q4930, h⟩ := h
      obtain ⟨q4931, h⟩ := h
      refine gh_sald gd_Law_law_779 q4930 q4931 ?_
      refine gh_aload_n gd_Law_law_780 0 rfl (by decide) ?_
      refine gh_iload_n gd_Law_law_781 3 rfl ?_
      refine gh_iconst gd_Law_law_782 (gh_r0 rfl) ?_
      obtain ⟨q4932, h⟩ := h
      refine gh_iadd gd_Law_law_783 q4932 ?_
      obtain ⟨q4933, h⟩ := h
      obtain ⟨q4934, h⟩ := h
      refine gh_sald gd_Law_law_784 q4933 q4934 ?_
      refine gh_aload_n gd_Law_law_785 0 rfl (by decide) ?_
      refine gh_iload_n gd_Law_law_786 3 rfl ?_
      refine gh_iconst gd_Law_law_787 (gh_r0 rfl) ?_
      obtain ⟨q4935, h⟩ := h
      refine gh_iadd gd_Law_law_788 q4935 ?_
      obtain ⟨q4936, h⟩ := h
      obtain ⟨q4937, h⟩ := h
      refine gh_sald gd_Law_law_789 q4936 q4937 ?_
      refine cv_Model_makes (d := d + 35) gd_Law_law_790 gh_k1935 hF (Nat.le_of_ble_eq_true rfl) (gh_C.mono (s_Model_makes (d + 32) (m4928 1 (v3 + 1)) (m4928 1 (v3 + 2)) (m4928 1 (v3 + 3)) hF h) (fun r4938 m4939 hq => ?_))
      obtain ⟨hF, h⟩ := hq
      obtain ⟨hA, hB⟩ := h
      refine gh_jeq (tgt := 1027) gd_Law_law_793 (by decide) (fun c4940 => ?_) (fun c4940 => ?_)
      · have h := hA c4940
        exact hJ1027 m4939 hF h
      · have h := hB c4940
        refine gh_iconst gd_Law_law_796 (gh_r0 rfl) ?_
        exact gh_ret8 rfl gd_Law_law_797 (by decide) ⟨hF, h⟩
    obtain ⟨hA, h⟩ := h
    by_cases c4941 : (gh_iand_f (m 1 v3) 31) = 22
    · have h := hA c4941
      refine gh_tabIn (tgt := 798) gd_Law_law_33 (by rw [c4941]; decide) (by rw [c4941]; decide) (by rw [c4941]; rfl) (by decide) ?_
      refine gh_aload_n gd_Law_law_798 1 rfl (by decide) ?_
      refine gh_aload_n gd_Law_law_799 0 rfl (by decide) ?_
      refine gh_iload_n gd_Law_law_800 3 rfl ?_
      refine gh_iconst gd_Law_law_801 (gh_r0 rfl) ?_
      obtain ⟨q4942, h⟩ := h
      refine gh_iadd gd_Law_law_802 q4942 ?_
      obtain ⟨q4943, h⟩ := h
      obtain ⟨q4944, h⟩ := h
      refine gh_sald gd_Law_law_803 q4943 q4944 ?_
      refine cv_House_end (d := d + 35) gd_Law_law_804 gh_k1141 hF (Nat.le_of_ble_eq_true rfl) (gh_C.mono (s_House_end (d + 29) (m 1 (v3 + 1)) hF h) (fun r4945 m4946 hq => ?_))
      obtain ⟨hF, h⟩ := hq
      refine gh_aload_n gd_Law_law_807 2 rfl (by decide) ?_
      refine gh_aload_n gd_Law_law_808 0 rfl (by decide) ?_
      refine gh_iload_n gd_Law_law_809 3 rfl ?_
      refine gh_iconst gd_Law_law_810 (gh_r0 rfl) ?_
      obtain ⟨q4947, h⟩ := h
      refine gh_iadd gd_Law_law_811 q4947 ?_
      obtain ⟨q4948, h⟩ := h
      obtain ⟨q4949, h⟩ := h
      refine gh_sald gd_Law_law_812 q4948 q4949 ?_
      refine cv_Model_end (d := d + 35) gd_Law_law_813 gh_k1939 hF (Nat.le_of_ble_eq_true rfl) (gh_C.mono (s_Model_end (d + 32) (m4946 1 (v3 + 1)) hF h) (fun r4950 m4951 hq => ?_))
      obtain ⟨hF, h⟩ := hq
      obtain ⟨hA, hB⟩ := h
      refine gh_jeq (tgt := 1027) gd_Law_law_816 (by decide) (fun c4952 => ?_) (fun c4952 => ?_)
      · have h := hA c4952
        exact hJ1027 m4951 hF h
      · have h := hB c4952
        refine gh_iconst gd_Law_law_819 (gh_r0 rfl) ?_
        exact gh_ret8 rfl gd_Law_law_820 (by decide) ⟨hF, h⟩
    obtain ⟨hA, h⟩ := h
    by_cases c4953 : (gh_iand_f (m 1 v3) 31) = 23
    · have h := hA c4953
      refine gh_tabIn (tgt := 821) gd_Law_law_33 (by rw [c4953]; decide) (by rw [c4953]; decide) (by rw [c4953]; rfl) (by decide) ?_
      refine gh_aload_n gd_Law_law_821 1 rfl (by decide) ?_
      refine cv_House_repair (d := d + 35) gd_Law_law_822 gh_k1163 hF (Nat.le_of_ble_eq_true rfl) (gh_C.mono (s_House_repair (d + 30) hF h) (fun r4954 m4955 hq => ?_))
      obtain ⟨hF, h⟩ := hq
      refine gh_aload_n gd_Law_law_825 2 rfl (by decide) ?_
      refine cv_Model_repair (d := d + 35) gd_Law_law_826 gh_k1950 hF (Nat.le_of_ble_eq_true rfl) (gh_C.mono (s_Model_repair (d + 33) hF h) (fun r4956 m4957 hq => ?_))
      obtain ⟨hF, h⟩ := hq
      obtain ⟨hA, hB⟩ := h
      refine gh_jeq (tgt := 1027) gd_Law_law_829 (by decide) (fun c4958 => ?_) (fun c4958 => ?_)
      · have h := hA c4958
        exact hJ1027 m4957 hF h
      · have h := hB c4958
        refine gh_iconst gd_Law_law_832 (gh_r0 rfl) ?_
        exact gh_ret8 rfl gd_Law_law_833 (by decide) ⟨hF, h⟩
    obtain ⟨hA, h⟩ := h
    by_cases c4959 : (gh_iand_f (m 1 v3) 31) = 24
    · have h := hA c4959
      refine gh_tabIn (tgt := 834) gd_Law_law_33 (by rw [c4959]; decide) (by rw [c4959]; decide) (by rw [c4959]; rfl) (by decide) ?_
      refine gh_aload_n gd_Law_law_834 1 rfl (by decide) ?_
      refine gh_aload_n gd_Law_law_835 0 rfl (by decide) ?_
      refine gh_iload_n gd_Law_law_836 3 rfl ?_
      refine gh_iconst gd_Law_law_837 (gh_r0 rfl) ?_
      obtain ⟨q4960, h⟩ := h
      refine gh_iadd gd_Law_law_838 q4960 ?_
      obtain ⟨q4961, h⟩ := h
      obtain ⟨q4962, h⟩ := h
      refine gh_sald gd_Law_law_839 q4961 q4962 ?_
      refine gh_aload_n gd_Law_law_840 0 rfl (by decide) ?_
      refine gh_iload_n gd_Law_law_841 3 rfl ?_
      refine gh_iconst gd_Law_law_842 (gh_r0 rfl) ?_
      obtain ⟨q4963, h⟩ := h
      refine gh_iadd gd_Law_law_843 q4963 ?_
      obtain ⟨q4964, h⟩ := h
      obtain ⟨q4965, h⟩ := h
      refine gh_sald gd_Law_law_844 q4964 q4965 ?_
      refine gh_aload_n gd_Law_law_845 0 rfl (by decide) ?_
      refine gh_iload_n gd_Law_law_846 3 rfl ?_
      refine gh_iconst gd_Law_law_847 (gh_r0 rfl) ?_
      obtain ⟨q4966, h⟩ := h
      refine gh_iadd gd_Law_law_848 q4966 ?_
      obtain ⟨q4967, h⟩ := h
      obtain ⟨q4968, h⟩ := h
      refine gh_sald gd_Law_law_849 q4967 q4968 ?_
      refine cv_House_trees (d := d + 35) gd_Law_law_850 gh_k1190 hF (Nat.le_of_ble_eq_true rfl) (gh_C.mono (s_House_trees (d + 2) (m 1 (v3 + 1)) (m 1 (v3 + 2)) (m 1 (v3 + 3)) hF h) (fun r4969 m4970 hq => ?_))
      obtain ⟨hF, h⟩ := hq
      refine gh_aload_n gd_Law_law_853 2 rfl (by decide) ?_
      refine gh_aload_n gd_Law_law_854 0 rfl (by decide) ?_
      refine gh_iload_n gd_Law_law_855 3 rfl ?_
      refine gh_iconst gd_Law_law_856 (gh_r0 rfl) ?_
      obtain ⟨q4971, h⟩ := h
      refine gh_iadd gd_Law_law_857 q4971 ?_
      obtain ⟨q4972, h⟩ := h
      obtain ⟨q4973, h⟩ := h
      refine gh_sald gd_Law_law_858 q4972 q4973 ?_
      refine gh_aload_n gd_Law_law_859 0 rfl (by decide) ?_
      refine gh_iload_n gd_Law_law_860 3 rfl ?_
      refine gh_iconst gd_Law_law_861 (gh_r0 rfl) ?_
      obtain ⟨q4974, h⟩ := h
      refine gh_iadd gd_Law_law_862 q4974 ?_
      obtain ⟨q4975, h⟩ := h
      obtain ⟨q4976, h⟩ := h
      refine gh_sald gd_Law_law_863 q4975 q4976 ?_
      refine gh_aload_n gd_Law_law_864 0 rfl (by decide) ?_
      refine gh_iload_n gd_Law_law_865 3 rfl ?_
      refine gh_iconst gd_Law_law_866 (gh_r0 rfl) ?_
      obtain ⟨q4977, h⟩ := h
      refine gh_iadd gd_Law_law_867 q4977 ?_
      obtain ⟨q4978, h⟩ := h
      obtain ⟨q4979, h⟩ := h
      refine gh_sald gd_Law_law_868 q4978 q4979 ?_
      refine cv_Model_trees (d := d + 35) gd_Law_law_869 gh_k1962 hF (Nat.le_of_ble_eq_true rfl) (gh_C.mono (s_Model_trees (d + 30) (m4970 1 (v3 + 1)) (m4970 1 (v3 + 2)) (m4970 1 (v3 + 3)) hF h) (fun r4980 m4981 hq => ?_))
      obtain ⟨hF, h⟩ := hq
      refine gh_lcmp gd_Law_law_872 ?_
      obtain ⟨hA, hB⟩ := h
      refine gh_ceq (tgt := 1027) gd_Law_law_873 (by decide) (fun c4982 => ?_) (fun c4982 => ?_)
      · have h := hA c4982
        exact hJ1027 m4981 hF h
      · have h := hB c4982
        refine gh_iconst gd_Law_law_876 (gh_r0 rfl) ?_
        exact gh_ret8 rfl gd_Law_law_877 (by decide) ⟨hF, h⟩
    obtain ⟨hA, h⟩ := h
    by_cases c4983 : (gh_iand_f (m 1 v3) 31) = 25
    · have h := hA c4983
      refine gh_tabIn (tgt := 878) gd_Law_law_33 (by rw [c4983]; decide) (by rw [c4983]; decide) (by rw [c4983]; rfl) (by decide) ?_
      refine gh_aload_n gd_Law_law_878 1 rfl (by decide) ?_
      refine gh_aload_n gd_Law_law_879 0 rfl (by decide) ?_
      refine gh_iload_n gd_Law_law_880 3 rfl ?_
      refine gh_iconst gd_Law_law_881 (gh_r0 rfl) ?_
      obtain ⟨q4984, h⟩ := h
      refine gh_iadd gd_Law_law_882 q4984 ?_
      obtain ⟨q4985, h⟩ := h
      obtain ⟨q4986, h⟩ := h
      refine gh_sald gd_Law_law_883 q4985 q4986 ?_
      refine gh_i2l gd_Law_law_884 ?_
      refine gh_bipush gd_Law_law_885 (by decide) (gh_r0 rfl) ?_
      refine gh_lshl gd_Law_law_887 ?_
      refine gh_aload_n gd_Law_law_888 0 rfl (by decide) ?_
      refine gh_iload_n gd_Law_law_889 3 rfl ?_
      refine gh_iconst gd_Law_law_890 (gh_r0 rfl) ?_
      obtain ⟨q4987, h⟩ := h
      refine gh_iadd gd_Law_law_891 q4987 ?_
      obtain ⟨q4988, h⟩ := h
      obtain ⟨q4989, h⟩ := h
      refine gh_sald gd_Law_law_892 q4988 q4989 ?_
      refine gh_i2l gd_Law_law_893 ?_
      refine gh_ldc2 (n := 4294967295) gd_Law_law_894 gh_k2085 (by decide) (gh_r1 rfl) ?_
      refine gh_land gd_Law_law_897 ?_
      refine gh_lor gd_Law_law_898 ?_
      refine cv_House_pick (d := d + 35) gd_Law_law_899 gh_k1250 hF (Nat.le_of_ble_eq_true rfl) (gh_C.mono (s_House_pick d (gh_lor_f (gh_lshl_f (m 1 (v3 + 1)) 32) (gh_land_f (m 1 (v3 + 2)) 4294967295)) hF h) (fun r4990 m4991 hq => ?_))
      obtain ⟨hF, h⟩ := hq
      refine gh_aload_n gd_Law_law_902 2 rfl (by decide) ?_
      refine gh_aload_n gd_Law_law_903 0 rfl (by decide) ?_
      refine gh_iload_n gd_Law_law_904 3 rfl ?_
      refine gh_iconst gd_Law_law_905 (gh_r0 rfl) ?_
      obtain ⟨q4992, h⟩ := h
      refine gh_iadd gd_Law_law_906 q4992 ?_
      obtain ⟨q4993, h⟩ := h
      obtain ⟨q4994, h⟩ := h
      refine gh_sald gd_Law_law_907 q4993 q4994 ?_
      refine gh_i2l gd_Law_law_908 ?_
      refine gh_bipush gd_Law_law_909 (by decide) (gh_r0 rfl) ?_
      refine gh_lshl gd_Law_law_911 ?_
      refine gh_aload_n gd_Law_law_912 0 rfl (by decide) ?_
      refine gh_iload_n gd_Law_law_913 3 rfl ?_
      refine gh_iconst gd_Law_law_914 (gh_r0 rfl) ?_
      obtain ⟨q4995, h⟩ := h
      refine gh_iadd gd_Law_law_915 q4995 ?_
      obtain ⟨q4996, h⟩ := h
      obtain ⟨q4997, h⟩ := h
      refine gh_sald gd_Law_law_916 q4996 q4997 ?_
      refine gh_i2l gd_Law_law_917 ?_
      refine gh_ldc2 (n := 4294967295) gd_Law_law_918 gh_k2085 (by decide) (gh_r1 rfl) ?_
      refine gh_land gd_Law_law_921 ?_
      refine gh_lor gd_Law_law_922 ?_
      refine cv_Model_pick (d := d + 35) gd_Law_law_923 gh_k2006 hF (Nat.le_of_ble_eq_true rfl) (gh_C.mono (s_Model_pick (d + 30) (gh_lor_f (gh_lshl_f (m4991 1 (v3 + 1)) 32) (gh_land_f (m4991 1 (v3 + 2)) 4294967295)) hF h) (fun r4998 m4999 hq => ?_))
      obtain ⟨hF, h⟩ := hq
      obtain ⟨hA, hB⟩ := h
      refine gh_jeq (tgt := 1027) gd_Law_law_926 (by decide) (fun c5000 => ?_) (fun c5000 => ?_)
      · have h := hA c5000
        exact hJ1027 m4999 hF h
      · have h := hB c5000
        refine gh_iconst gd_Law_law_929 (gh_r0 rfl) ?_
        exact gh_ret8 rfl gd_Law_law_930 (by decide) ⟨hF, h⟩
    obtain ⟨hA, h⟩ := h
    by_cases c5001 : (gh_iand_f (m 1 v3) 31) = 26
    · have h := hA c5001
      refine gh_tabIn (tgt := 931) gd_Law_law_33 (by rw [c5001]; decide) (by rw [c5001]; decide) (by rw [c5001]; rfl) (by decide) ?_
      refine gh_aload_n gd_Law_law_931 1 rfl (by decide) ?_
      refine gh_aload_n gd_Law_law_932 0 rfl (by decide) ?_
      refine gh_iload_n gd_Law_law_933 3 rfl ?_
      refine gh_iconst gd_Law_law_934 (gh_r0 rfl) ?_
      obtain ⟨q5002, h⟩ := h
      refine gh_iadd gd_Law_law_935 q5002 ?_
      obtain ⟨q5003, h⟩ := h
      obtain ⟨q5004, h⟩ := h
      refine gh_sald gd_Law_law_936 q5003 q5004 ?_
      obtain ⟨q5005, h⟩ := h
      refine cv_House_step (d := d + 35) gd_Law_law_937 gh_k1294 hF (Nat.le_of_ble_eq_true rfl) (gh_C.pe (e_House_step (d + 35) (m 1 (v3 + 1)) hF q5005) ?_)
      refine gh_aload_n gd_Law_law_940 2 rfl (by decide) ?_
      refine gh_aload_n gd_Law_law_941 0 rfl (by decide) ?_
      refine gh_iload_n gd_Law_law_942 3 rfl ?_
      refine gh_iconst gd_Law_law_943 (gh_r0 rfl) ?_
      obtain ⟨q5006, h⟩ := h
      refine gh_iadd gd_Law_law_944 q5006 ?_
      obtain ⟨q5007, h⟩ := h
      obtain ⟨q5008, h⟩ := h
      refine gh_sald gd_Law_law_945 q5007 q5008 ?_
      obtain ⟨q5009, h⟩ := h
      refine cv_Model_step (d := d + 35) gd_Law_law_946 gh_k2026 hF (Nat.le_of_ble_eq_true rfl) (gh_C.pe (e_Model_step (d + 34) (m 1 (v3 + 1)) hF q5009) ?_)
      obtain ⟨hA, hB⟩ := h
      refine gh_jeq (tgt := 1027) gd_Law_law_949 (by decide) (fun c5010 => ?_) (fun c5010 => ?_)
      · have h := hA c5010
        exact hJ1027 m hF h
      · have h := hB c5010
        refine gh_iconst gd_Law_law_952 (gh_r0 rfl) ?_
        exact gh_ret8 rfl gd_Law_law_953 (by decide) ⟨hF, h⟩
    obtain ⟨hA, h⟩ := h
    by_cases c5011 : (gh_iand_f (m 1 v3) 31) = 27
    · have h := hA c5011
      refine gh_tabIn (tgt := 954) gd_Law_law_33 (by rw [c5011]; decide) (by rw [c5011]; decide) (by rw [c5011]; rfl) (by decide) ?_
      refine gh_aload_n gd_Law_law_954 1 rfl (by decide) ?_
      refine cv_House_deep (d := d + 35) gd_Law_law_955 gh_k1298 hF (Nat.le_of_ble_eq_true rfl) (gh_C.pe (e_House_deep (d + 35)  hF) ?_)
      refine gh_aload_n gd_Law_law_958 2 rfl (by decide) ?_
      refine cv_Model_deep (d := d + 35) gd_Law_law_959 gh_k2030 hF (Nat.le_of_ble_eq_true rfl) (gh_C.pe (e_Model_deep (d + 35)  hF) ?_)
      obtain ⟨hA, hB⟩ := h
      refine gh_jeq (tgt := 1027) gd_Law_law_962 (by decide) (fun c5012 => ?_) (fun c5012 => ?_)
      · have h := hA c5012
        exact hJ1027 m hF h
      · have h := hB c5012
        refine gh_iconst gd_Law_law_965 (gh_r0 rfl) ?_
        exact gh_ret8 rfl gd_Law_law_966 (by decide) ⟨hF, h⟩
    obtain ⟨hA, h⟩ := h
    by_cases c5013 : (gh_iand_f (m 1 v3) 31) = 28
    · have h := hA c5013
      refine gh_tabIn (tgt := 967) gd_Law_law_33 (by rw [c5013]; decide) (by rw [c5013]; decide) (by rw [c5013]; rfl) (by decide) ?_
      refine gh_aload_n gd_Law_law_967 1 rfl (by decide) ?_
      refine gh_aload_n gd_Law_law_968 0 rfl (by decide) ?_
      refine gh_iload_n gd_Law_law_969 3 rfl ?_
      refine gh_iconst gd_Law_law_970 (gh_r0 rfl) ?_
      obtain ⟨q5014, h⟩ := h
      refine gh_iadd gd_Law_law_971 q5014 ?_
      obtain ⟨q5015, h⟩ := h
      obtain ⟨q5016, h⟩ := h
      refine gh_sald gd_Law_law_972 q5015 q5016 ?_
      refine cv_House_proper (d := d + 35) gd_Law_law_973 gh_k1302 hF (Nat.le_of_ble_eq_true rfl) (gh_C.mono (s_House_proper (d + 31) (m 1 (v3 + 1)) hF h) (fun r5017 m5018 hq => ?_))
      obtain ⟨hF, h⟩ := hq
      refine gh_aload_n gd_Law_law_976 2 rfl (by decide) ?_
      refine gh_aload_n gd_Law_law_977 0 rfl (by decide) ?_
      refine gh_iload_n gd_Law_law_978 3 rfl ?_
      refine gh_iconst gd_Law_law_979 (gh_r0 rfl) ?_
      obtain ⟨q5019, h⟩ := h
      refine gh_iadd gd_Law_law_980 q5019 ?_
      obtain ⟨q5020, h⟩ := h
      obtain ⟨q5021, h⟩ := h
      refine gh_sald gd_Law_law_981 q5020 q5021 ?_
      refine cv_Model_proper (d := d + 35) gd_Law_law_982 gh_k1864 hF (Nat.le_of_ble_eq_true rfl) (gh_C.pw (s_Model_proper (d + 34) (m5018 1 (v3 + 1)) hF h) (fun r5022 h => ?_))
      obtain ⟨hA, hB⟩ := h
      refine gh_jeq (tgt := 1027) gd_Law_law_985 (by decide) (fun c5024 => ?_) (fun c5024 => ?_)
      · have h := hA c5024
        exact hJ1027 m5018 hF h
      · have h := hB c5024
        refine gh_iconst gd_Law_law_988 (gh_r0 rfl) ?_
        exact gh_ret8 rfl gd_Law_law_989 (by decide) ⟨hF, h⟩
    obtain ⟨hA, h⟩ := h
    by_cases c5025 : (gh_iand_f (m 1 v3) 31) = 29
    · have h := hA c5025
      refine gh_tabIn (tgt := 990) gd_Law_law_33 (by rw [c5025]; decide) (by rw [c5025]; decide) (by rw [c5025]; rfl) (by decide) ?_
      refine gh_aload_n gd_Law_law_990 1 rfl (by decide) ?_
      refine gh_aload_n gd_Law_law_991 0 rfl (by decide) ?_
      refine gh_iload_n gd_Law_law_992 3 rfl ?_
      refine gh_iconst gd_Law_law_993 (gh_r0 rfl) ?_
      obtain ⟨q5026, h⟩ := h
      refine gh_iadd gd_Law_law_994 q5026 ?_
      obtain ⟨q5027, h⟩ := h
      obtain ⟨q5028, h⟩ := h
      refine gh_sald gd_Law_law_995 q5027 q5028 ?_
      refine cv_House_properly (d := d + 35) gd_Law_law_996 gh_k1343 hF (Nat.le_of_ble_eq_true rfl) (gh_C.mono (s_House_properly (d + 29) (m 1 (v3 + 1)) hF h) (fun r5029 m5030 hq => ?_))
      obtain ⟨hF, h⟩ := hq
      refine gh_aload_n gd_Law_law_999 2 rfl (by decide) ?_
      refine gh_aload_n gd_Law_law_1000 0 rfl (by decide) ?_
      refine gh_iload_n gd_Law_law_1001 3 rfl ?_
      refine gh_iconst gd_Law_law_1002 (gh_r0 rfl) ?_
      obtain ⟨q5031, h⟩ := h
      refine gh_iadd gd_Law_law_1003 q5031 ?_
      obtain ⟨q5032, h⟩ := h
      obtain ⟨q5033, h⟩ := h
      refine gh_sald gd_Law_law_1004 q5032 q5033 ?_
      refine cv_Model_properly (d := d + 35) gd_Law_law_1005 gh_k1868 hF (Nat.le_of_ble_eq_true rfl) (gh_C.mono (s_Model_properly (d + 33) (m5030 1 (v3 + 1)) hF h) (fun r5034 m5035 hq => ?_))
      obtain ⟨hF, h⟩ := hq
      obtain ⟨hA, hB⟩ := h
      refine gh_jeq (tgt := 1027) gd_Law_law_1008 (by decide) (fun c5036 => ?_) (fun c5036 => ?_)
      · have h := hA c5036
        exact hJ1027 m5035 hF h
      · have h := hB c5036
        refine gh_iconst gd_Law_law_1011 (gh_r0 rfl) ?_
        exact gh_ret8 rfl gd_Law_law_1012 (by decide) ⟨hF, h⟩
    obtain ⟨hA, h⟩ := h
    by_cases c5037 : (gh_iand_f (m 1 v3) 31) = 30
    · have h := hA c5037
      refine gh_tabIn (tgt := 1013) gd_Law_law_33 (by rw [c5037]; decide) (by rw [c5037]; decide) (by rw [c5037]; rfl) (by decide) ?_
      refine gh_aload_n gd_Law_law_1013 1 rfl (by decide) ?_
      refine cv_House_digest (d := d + 35) gd_Law_law_1014 gh_k1347 hF (Nat.le_of_ble_eq_true rfl) (gh_C.mono (s_House_digest (d + 29) hF h) (fun r5038 m5039 hq => ?_))
      obtain ⟨hF, h⟩ := hq
      refine gh_aload_n gd_Law_law_1017 2 rfl (by decide) ?_
      refine cv_Model_digest (d := d + 35) gd_Law_law_1018 gh_k2066 hF (Nat.le_of_ble_eq_true rfl) (gh_C.mono (s_Model_digest (d + 31) hF h) (fun r5040 m5041 hq => ?_))
      obtain ⟨hF, h⟩ := hq
      refine gh_lcmp gd_Law_law_1021 ?_
      obtain ⟨hA, hB⟩ := h
      refine gh_ceq (tgt := 1027) gd_Law_law_1022 (by decide) (fun c5042 => ?_) (fun c5042 => ?_)
      · have h := hA c5042
        exact hJ1027 m5041 hF h
      · have h := hB c5042
        refine gh_iconst gd_Law_law_1025 (gh_r0 rfl) ?_
        exact gh_ret8 rfl gd_Law_law_1026 (by decide) ⟨hF, h⟩
    have n5043 : ¬ ((gh_iand_f (m 1 v3) 31) = 0) := c4620
    have n5044 : ¬ ((gh_iand_f (m 1 v3) 31) = 1) := c4656
    have n5045 : ¬ ((gh_iand_f (m 1 v3) 31) = 2) := c4662
    have n5046 : ¬ ((gh_iand_f (m 1 v3) 31) = 3) := c4672
    have n5047 : ¬ ((gh_iand_f (m 1 v3) 31) = 4) := c4678
    have n5048 : ¬ ((gh_iand_f (m 1 v3) 31) = 5) := c4688
    have n5049 : ¬ ((gh_iand_f (m 1 v3) 31) = 6) := c4700
    have n5050 : ¬ ((gh_iand_f (m 1 v3) 31) = 7) := c4718
    have n5051 : ¬ ((gh_iand_f (m 1 v3) 31) = 8) := c4735
    have n5052 : ¬ ((gh_iand_f (m 1 v3) 31) = 9) := c4751
    have n5053 : ¬ ((gh_iand_f (m 1 v3) 31) = 10) := c4767
    have n5054 : ¬ ((gh_iand_f (m 1 v3) 31) = 11) := c4777
    have n5055 : ¬ ((gh_iand_f (m 1 v3) 31) = 12) := c4787
    have n5056 : ¬ ((gh_iand_f (m 1 v3) 31) = 13) := c4805
    have n5057 : ¬ ((gh_iand_f (m 1 v3) 31) = 14) := c4817
    have n5058 : ¬ ((gh_iand_f (m 1 v3) 31) = 15) := c4829
    have n5059 : ¬ ((gh_iand_f (m 1 v3) 31) = 16) := c4841
    have n5060 : ¬ ((gh_iand_f (m 1 v3) 31) = 17) := c4851
    have n5061 : ¬ ((gh_iand_f (m 1 v3) 31) = 18) := c4863
    have n5062 : ¬ ((gh_iand_f (m 1 v3) 31) = 19) := c4875
    have n5063 : ¬ ((gh_iand_f (m 1 v3) 31) = 20) := c4887
    have n5064 : ¬ ((gh_iand_f (m 1 v3) 31) = 21) := c4917
    have n5065 : ¬ ((gh_iand_f (m 1 v3) 31) = 22) := c4941
    have n5066 : ¬ ((gh_iand_f (m 1 v3) 31) = 23) := c4953
    have n5067 : ¬ ((gh_iand_f (m 1 v3) 31) = 24) := c4959
    have n5068 : ¬ ((gh_iand_f (m 1 v3) 31) = 25) := c4983
    have n5069 : ¬ ((gh_iand_f (m 1 v3) 31) = 26) := c5001
    have n5070 : ¬ ((gh_iand_f (m 1 v3) 31) = 27) := c5011
    have n5071 : ¬ ((gh_iand_f (m 1 v3) 31) = 28) := c5013
    have n5072 : ¬ ((gh_iand_f (m 1 v3) 31) = 29) := c5025
    have n5073 : ¬ ((gh_iand_f (m 1 v3) 31) = 30) := c5037
    refine gh_tabOut (tgt := 1027) gd_Law_law_33 (by omega) (by decide) ?_
    have h := h c4620 c4656 c4662 c4672 c4678 c4688 c4700 c4718 c4735 c4751 c4767 c4777 c4787 c4805 c4817 c4829 c4841 c4851 c4863 c4875 c4887 c4917 c4941 c4953 c4959 c4983 c5001 c5011 c5013 c5025 c5037
    exact hJ1027 m hF h
  · have h := hB c4616
    refine gh_iconst gd_Law_law_1033 (gh_r0 rfl) ?_
    exact gh_ret8 rfl gd_Law_law_1034 (by decide) ⟨hF, h⟩
theorem s_Law {E : gh_E} {m : gh_M} {Q : Int → gh_M → Prop} (d : Nat) (hF : gh_F m) (h : w_Law m Q) : gh_T E gh_MLaw (d + 36) 16 [(2, 2, 63), (1, 2, 2), (0, 2, 1)] [] m (fun r m1 => gh_F m1 ∧ Q r m1) := by
  unfold w_Law at h
  refine gh_iconst gd_Law_law_16 (gh_r0 rfl) ?_
  refine gh_istore_n (L2 := [(3, 0, 0), (2, 2, 63), (1, 2, 2), (0, 2, 1)]) gd_Law_law_17 (by decide) rfl ?_
  refine gh_pick (L2 := [(0, 2, 1), (1, 2, 2), (2, 2, 63), (3, 0, 0)]) [3, 2, 1, 0] rfl ?_
  exact gh_M1_sound (T := fun v3 m => gh_T E gh_MLaw (d + 36) 18 [(0, 2, 1), (1, 2, 2), (2, 2, 63), (3, 0, v3)] [] m (fun r m1 => gh_F m1 ∧ Q r m1)) (fun _ m => gh_F m) (fun K18 v3 m hK hF h => b_Law_law_18 d hK v3 m hF h) 0 m hF h
