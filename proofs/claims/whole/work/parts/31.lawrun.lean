def f_Law_law_18 (Q : Int → gh_M → Prop) (K18 : Int → gh_M → Prop) (v3 : Int) (m : gh_M) : Prop := gh_i ((m 0 3) - 6) ∧ ((v3 ≤ ((m 0 3) - 6) → 0 ≤ v3 ∧ v3 < m 0 3 ∧ ∃ J1027 : gh_M → Prop, (∀ (m : gh_M), J1027 m → gh_i (v3 + 6) ∧ K18 (v3 + 6) m) ∧ (((gh_iand_f (m 1 v3) 31) = 0 → gh_i (v3 + 1) ∧ 0 ≤ v3 + 1 ∧ (v3 + 1) < m 0 3 ∧ gh_i (v3 + 2) ∧ 0 ≤ v3 + 2 ∧ (v3 + 2) < m 0 3 ∧ gh_i (v3 + 3) ∧ 0 ≤ v3 + 3 ∧ (v3 + 3) < m 0 3 ∧ gh_i (v3 + 4) ∧ 0 ≤ v3 + 4 ∧ (v3 + 4) < m 0 3 ∧ gh_i (v3 + 5) ∧ 0 ≤ v3 + 5 ∧ (v3 + 5) < m 0 3 ∧ w_House_type (m 1 (v3 + 1)) (m 1 (v3 + 2)) (m 1 (v3 + 3)) (m 1 (v3 + 4)) (m 1 (v3 + 5)) m (fun r4631 m4632 => gh_i (v3 + 1) ∧ 0 ≤ v3 + 1 ∧ (v3 + 1) < m4632 0 3 ∧ gh_i (v3 + 2) ∧ 0 ≤ v3 + 2 ∧ (v3 + 2) < m4632 0 3 ∧ gh_i (v3 + 3) ∧ 0 ≤ v3 + 3 ∧ (v3 + 3) < m4632 0 3 ∧ gh_i (v3 + 4) ∧ 0 ≤ v3 + 4 ∧ (v3 + 4) < m4632 0 3 ∧ gh_i (v3 + 5) ∧ 0 ≤ v3 + 5 ∧ (v3 + 5) < m4632 0 3 ∧ w_Model_type (m4632 1 (v3 + 1)) (m4632 1 (v3 + 2)) (m4632 1 (v3 + 3)) (m4632 1 (v3 + 4)) (m4632 1 (v3 + 5)) m4632 (fun r4648 m4649 => ((r4631 = r4648 → J1027 m4649) ∧ (¬ (r4631 = r4648) → Q 0 m4649))))) ∧ (((gh_iand_f (m 1 v3) 31) = 1 → w_House_wipe m (fun r4652 m4653 => w_Model_wipe m4653 (fun r4654 m4655 => ((r4652 = r4654 → J1027 m4655) ∧ (¬ (r4652 = r4654) → Q 0 m4655))))) ∧ (((gh_iand_f (m 1 v3) 31) = 2 → gh_i (v3 + 1) ∧ 0 ≤ v3 + 1 ∧ (v3 + 1) < m 0 3 ∧ k_House_sign (m 1 (v3 + 1)) m ∧ gh_i (v3 + 1) ∧ 0 ≤ v3 + 1 ∧ (v3 + 1) < m 0 3 ∧ k_Model_sign (m 1 (v3 + 1)) m ∧ (((x_House_sign (m 1 (v3 + 1)) m) = (x_Model_sign (m 1 (v3 + 1)) m) → J1027 m) ∧ (¬ ((x_House_sign (m 1 (v3 + 1)) m) = (x_Model_sign (m 1 (v3 + 1)) m)) → Q 0 m))) ∧ (((gh_iand_f (m 1 v3) 31) = 3 → w_House_read m (fun r4668 m4669 => w_Model_read m4669 (fun r4670 m4671 => ((r4668 = r4670 → J1027 m4671) ∧ (¬ (r4668 = r4670) → Q 0 m4671))))) ∧ (((gh_iand_f (m 1 v3) 31) = 4 → gh_i (v3 + 1) ∧ 0 ≤ v3 + 1 ∧ (v3 + 1) < m 0 3 ∧ w_House_fault (m 1 (v3 + 1)) m (fun r4677 => gh_i (v3 + 1) ∧ 0 ≤ v3 + 1 ∧ (v3 + 1) < m 0 3 ∧ ((r4677 = (x_Model_fault (m 1 (v3 + 1)) m) → J1027 m) ∧ (¬ (r4677 = (x_Model_fault (m 1 (v3 + 1)) m)) → Q 0 m)))) ∧ (((gh_iand_f (m 1 v3) 31) = 5 → gh_i (v3 + 1) ∧ 0 ≤ v3 + 1 ∧ (v3 + 1) < m 0 3 ∧ w_House_sum (m 1 (v3 + 1)) m (fun r4687 => gh_i (v3 + 1) ∧ 0 ≤ v3 + 1 ∧ (v3 + 1) < m 0 3 ∧ w_Model_sum (m 1 (v3 + 1)) m (fun r4692 => ((r4687 = r4692 → J1027 m) ∧ (¬ (r4687 = r4692) → Q 0 m))))) ∧ (((gh_iand_f (m 1 v3) 31) = 6 → gh_i (v3 + 1) ∧ 0 ≤ v3 + 1 ∧ (v3 + 1) < m 0 3 ∧ gh_i (v3 + 2) ∧ 0 ≤ v3 + 2 ∧ (v3 + 2) < m 0 3 ∧ w_House_name (m 1 (v3 + 1)) (m 1 (v3 + 2)) m (fun r4702 => gh_i (v3 + 1) ∧ 0 ≤ v3 + 1 ∧ (v3 + 1) < m 0 3 ∧ gh_i (v3 + 2) ∧ 0 ≤ v3 + 2 ∧ (v3 + 2) < m 0 3 ∧ w_Model_name (m 1 (v3 + 1)) (m 1 (v3 + 2)) m (fun r4710 => ((r4702 = r4710 → J1027 m) ∧ (¬ (r4702 = r4710) → Q 0 m))))) ∧ (((gh_iand_f (m 1 v3) 31) = 7 → gh_i (v3 + 1) ∧ 0 ≤ v3 + 1 ∧ (v3 + 1) < m 0 3 ∧ gh_i (v3 + 2) ∧ 0 ≤ v3 + 2 ∧ (v3 + 2) < m 0 3 ∧ w_House_nameSign (m 1 (v3 + 1)) (m 1 (v3 + 2)) m (fun r4720 => gh_i (v3 + 1) ∧ 0 ≤ v3 + 1 ∧ (v3 + 1) < m 0 3 ∧ gh_i (v3 + 2) ∧ 0 ≤ v3 + 2 ∧ (v3 + 2) < m 0 3 ∧ k_Model_nameSign (m 1 (v3 + 1)) (m 1 (v3 + 2)) m ∧ ((r4720 = (x_Model_nameSign (m 1 (v3 + 1)) (m 1 (v3 + 2)) m) → J1027 m) ∧ (¬ (r4720 = (x_Model_nameSign (m 1 (v3 + 1)) (m 1 (v3 + 2)) m)) → Q 0 m)))) ∧ (((gh_iand_f (m 1 v3) 31) = 8 → gh_i (v3 + 1) ∧ 0 ≤ v3 + 1 ∧ (v3 + 1) < m 0 3 ∧ gh_i (v3 + 2) ∧ 0 ≤ v3 + 2 ∧ (v3 + 2) < m 0 3 ∧ k_House_rule (m 1 (v3 + 1)) (m 1 (v3 + 2)) m ∧ gh_i (v3 + 1) ∧ 0 ≤ v3 + 1 ∧ (v3 + 1) < m 0 3 ∧ gh_i (v3 + 2) ∧ 0 ≤ v3 + 2 ∧ (v3 + 2) < m 0 3 ∧ k_Model_rule (m 1 (v3 + 1)) (m 1 (v3 + 2)) m ∧ (((x_House_rule (m 1 (v3 + 1)) (m 1 (v3 + 2)) m) = (x_Model_rule (m 1 (v3 + 1)) (m 1 (v3 + 2)) m) → J1027 m) ∧ (¬ ((x_House_rule (m 1 (v3 + 1)) (m 1 (v3 + 2)) m) = (x_Model_rule (m 1 (v3 + 1)) (m 1 (v3 + 2)) m)) → Q 0 m))) ∧ (((gh_iand_f (m 1 v3) 31) = 9 → gh_i (v3 + 1) ∧ 0 ≤ v3 + 1 ∧ (v3 + 1) < m 0 3 ∧ gh_i (v3 + 2) ∧ 0 ≤ v3 + 2 ∧ (v3 + 2) < m 0 3 ∧ k_House_part (m 1 (v3 + 1)) (m 1 (v3 + 2)) m ∧ gh_i (v3 + 1) ∧ 0 ≤ v3 + 1 ∧ (v3 + 1) < m 0 3 ∧ gh_i (v3 + 2) ∧ 0 ≤ v3 + 2 ∧ (v3 + 2) < m 0 3 ∧ k_Model_part (m 1 (v3 + 1)) (m 1 (v3 + 2)) m ∧ (((x_House_part (m 1 (v3 + 1)) (m 1 (v3 + 2)) m) = (x_Model_part (m 1 (v3 + 1)) (m 1 (v3 + 2)) m) → J1027 m) ∧ (¬ ((x_House_part (m 1 (v3 + 1)) (m 1 (v3 + 2)) m) = (x_Model_part (m 1 (v3 + 1)) (m 1 (v3 + 2)) m)) → Q 0 m))) ∧ (((gh_iand_f (m 1 v3) 31) = 10 → gh_i (v3 + 1) ∧ 0 ≤ v3 + 1 ∧ (v3 + 1) < m 0 3 ∧ k_House_first (m 1 (v3 + 1)) m ∧ gh_i (v3 + 1) ∧ 0 ≤ v3 + 1 ∧ (v3 + 1) < m 0 3 ∧ k_Model_first (m 1 (v3 + 1)) m ∧ (((x_House_first (m 1 (v3 + 1)) m) = (x_Model_first (m 1 (v3 + 1)) m) → J1027 m) ∧ (¬ ((x_House_first (m 1 (v3 + 1)) m) = (x_Model_first (m 1 (v3 + 1)) m)) → Q 0 m))) ∧ (((gh_iand_f (m 1 v3) 31) = 11 → gh_i (v3 + 1) ∧ 0 ≤ v3 + 1 ∧ (v3 + 1) < m 0 3 ∧ k_House_follow (m 1 (v3 + 1)) m ∧ gh_i (v3 + 1) ∧ 0 ≤ v3 + 1 ∧ (v3 + 1) < m 0 3 ∧ k_Model_follow (m 1 (v3 + 1)) m ∧ (((x_House_follow (m 1 (v3 + 1)) m) = (x_Model_follow (m 1 (v3 + 1)) m) → J1027 m) ∧ (¬ ((x_House_follow (m 1 (v3 + 1)) m) = (x_Model_follow (m 1 (v3 + 1)) m)) → Q 0 m))) ∧ (((gh_iand_f (m 1 v3) 31) = 12 → gh_i (v3 + 1) ∧ 0 ≤ v3 + 1 ∧ (v3 + 1) < m 0 3 ∧ gh_i (v3 + 2) ∧ 0 ≤ v3 + 2 ∧ (v3 + 2) < m 0 3 ∧ w_House_table (m 1 (v3 + 1)) (m 1 (v3 + 2)) m (fun r4789 => gh_i (v3 + 1) ∧ 0 ≤ v3 + 1 ∧ (v3 + 1) < m 0 3 ∧ gh_i (v3 + 2) ∧ 0 ≤ v3 + 2 ∧ (v3 + 2) < m 0 3 ∧ w_Model_table (m 1 (v3 + 1)) (m 1 (v3 + 2)) m (fun r4797 => ((r4789 = r4797 → J1027 m) ∧ (¬ (r4789 = r4797) → Q 0 m))))) ∧ (((gh_iand_f (m 1 v3) 31) = 13 → gh_i (v3 + 1) ∧ 0 ≤ v3 + 1 ∧ (v3 + 1) < m 0 3 ∧ w_House_put (m 1 (v3 + 1)) m (fun r4804 m4805 => gh_i (v3 + 1) ∧ 0 ≤ v3 + 1 ∧ (v3 + 1) < m4805 0 3 ∧ w_Model_put (m4805 1 (v3 + 1)) m4805 (fun r4809 m4810 => ((r4804 = r4809 → J1027 m4810) ∧ (¬ (r4804 = r4809) → Q 0 m4810))))) ∧ (((gh_iand_f (m 1 v3) 31) = 14 → gh_i (v3 + 1) ∧ 0 ≤ v3 + 1 ∧ (v3 + 1) < m 0 3 ∧ w_House_back (m 1 (v3 + 1)) m (fun r4816 m4817 => gh_i (v3 + 1) ∧ 0 ≤ v3 + 1 ∧ (v3 + 1) < m4817 0 3 ∧ w_Model_back (m4817 1 (v3 + 1)) m4817 (fun r4821 m4822 => ((r4816 = r4821 → J1027 m4822) ∧ (¬ (r4816 = r4821) → Q 0 m4822))))) ∧ (((gh_iand_f (m 1 v3) 31) = 15 → gh_i (v3 + 1) ∧ 0 ≤ v3 + 1 ∧ (v3 + 1) < m 0 3 ∧ w_House_made (m 1 (v3 + 1)) m (fun r4828 m4829 => gh_i (v3 + 1) ∧ 0 ≤ v3 + 1 ∧ (v3 + 1) < m4829 0 3 ∧ w_Model_made (m4829 1 (v3 + 1)) m4829 (fun r4833 m4834 => ((r4828 = r4833 → J1027 m4834) ∧ (¬ (r4828 = r4833) → Q 0 m4834))))) ∧ (((gh_iand_f (m 1 v3) 31) = 16 → gh_i (v3 + 1) ∧ 0 ≤ v3 + 1 ∧ (v3 + 1) < m 0 3 ∧ k_House_letter (m 1 (v3 + 1)) m ∧ gh_i (v3 + 1) ∧ 0 ≤ v3 + 1 ∧ (v3 + 1) < m 0 3 ∧ k_Model_letter (m 1 (v3 + 1)) m ∧ (((x_House_letter (m 1 (v3 + 1)) m) = (x_Model_letter (m 1 (v3 + 1)) m) → J1027 m) ∧ (¬ ((x_House_letter (m 1 (v3 + 1)) m) = (x_Model_letter (m 1 (v3 + 1)) m)) → Q 0 m))) ∧ (((gh_iand_f (m 1 v3) 31) = 17 → gh_i (v3 + 1) ∧ 0 ≤ v3 + 1 ∧ (v3 + 1) < m 0 3 ∧ w_House_accepts (m 1 (v3 + 1)) m (fun r4850 m4851 => gh_i (v3 + 1) ∧ 0 ≤ v3 + 1 ∧ (v3 + 1) < m4851 0 3 ∧ w_Model_accepts (m4851 1 (v3 + 1)) m4851 (fun r4855 m4856 => ((r4850 = r4855 → J1027 m4856) ∧ (¬ (r4850 = r4855) → Q 0 m4856))))) ∧ (((gh_iand_f (m 1 v3) 31) = 18 → gh_i (v3 + 1) ∧ 0 ≤ v3 + 1 ∧ (v3 + 1) < m 0 3 ∧ w_House_next (m 1 (v3 + 1)) m (fun r4862 m4863 => gh_i (v3 + 1) ∧ 0 ≤ v3 + 1 ∧ (v3 + 1) < m4863 0 3 ∧ w_Model_next2 (m4863 1 (v3 + 1)) m4863 (fun r4867 m4868 => ((r4862 = r4867 → J1027 m4868) ∧ (¬ (r4862 = r4867) → Q 0 m4868))))) ∧ (((gh_iand_f (m 1 v3) 31) = 19 → gh_i (v3 + 1) ∧ 0 ≤ v3 + 1 ∧ (v3 + 1) < m 0 3 ∧ w_House_items (m 1 (v3 + 1)) m (fun r4874 m4875 => gh_i (v3 + 1) ∧ 0 ≤ v3 + 1 ∧ (v3 + 1) < m4875 0 3 ∧ w_Model_items (m4875 1 (v3 + 1)) m4875 (fun r4879 m4880 => ((r4874 = r4879 → J1027 m4880) ∧ (¬ (r4874 = r4879) → Q 0 m4880))))) ∧ (((gh_iand_f (m 1 v3) 31) = 20 → gh_i (v3 + 1) ∧ 0 ≤ v3 + 1 ∧ (v3 + 1) < m 0 3 ∧ gh_i (v3 + 2) ∧ 0 ≤ v3 + 2 ∧ (v3 + 2) < m 0 3 ∧ gh_i (v3 + 3) ∧ 0 ≤ v3 + 3 ∧ (v3 + 3) < m 0 3 ∧ gh_i (v3 + 4) ∧ 0 ≤ v3 + 4 ∧ (v3 + 4) < m 0 3 ∧ w_House_isItem (m 1 (v3 + 1)) (m 1 (v3 + 2)) (m 1 (v3 + 3)) (m 1 (v3 + 4)) m (fun r4895 m4896 => gh_i (v3 + 1) ∧ 0 ≤ v3 + 1 ∧ (v3 + 1) < m4896 0 3 ∧ gh_i (v3 + 2) ∧ 0 ≤ v3 + 2 ∧ (v3 + 2) < m4896 0 3 ∧ gh_i (v3 + 3) ∧ 0 ≤ v3 + 3 ∧ (v3 + 3) < m4896 0 3 ∧ gh_i (v3 + 4) ∧ 0 ≤ v3 + 4 ∧ (v3 + 4) < m4896 0 3 ∧ w_Model_isItem (m4896 1 (v3 + 1)) (m4896 1 (v3 + 2)) (m4896 1 (v3 + 3)) (m4896 1 (v3 + 4)) m4896 (fun r4909 m4910 => ((r4895 = r4909 → J1027 m4910) ∧ (¬ (r4895 = r4909) → Q 0 m4910))))) ∧ (((gh_iand_f (m 1 v3) 31) = 21 → gh_i (v3 + 1) ∧ 0 ≤ v3 + 1 ∧ (v3 + 1) < m 0 3 ∧ gh_i (v3 + 2) ∧ 0 ≤ v3 + 2 ∧ (v3 + 2) < m 0 3 ∧ gh_i (v3 + 3) ∧ 0 ≤ v3 + 3 ∧ (v3 + 3) < m 0 3 ∧ w_House_makes (m 1 (v3 + 1)) (m 1 (v3 + 2)) (m 1 (v3 + 3)) m (fun r4922 m4923 => gh_i (v3 + 1) ∧ 0 ≤ v3 + 1 ∧ (v3 + 1) < m4923 0 3 ∧ gh_i (v3 + 2) ∧ 0 ≤ v3 + 2 ∧ (v3 + 2) < m4923 0 3 ∧ gh_i (v3 + 3) ∧ 0 ≤ v3 + 3 ∧ (v3 + 3) < m4923 0 3 ∧ w_Model_makes (m4923 1 (v3 + 1)) (m4923 1 (v3 + 2)) (m4923 1 (v3 + 3)) m4923 (fun r4933 m4934 => ((r4922 = r4933 → J1027 m4934) ∧ (¬ (r4922 = r4933) → Q 0 m4934))))) ∧ (((gh_iand_f (m 1 v3) 31) = 22 → gh_i (v3 + 1) ∧ 0 ≤ v3 + 1 ∧ (v3 + 1) < m 0 3 ∧ w_House_end (m 1 (v3 + 1)) m (fun r4940 m4941 => gh_i (v3 + 1) ∧ 0 ≤ v3 + 1 ∧ (v3 + 1) < m4941 0 3 ∧ w_Model_end (m4941 1 (v3 + 1)) m4941 (fun r4945 m4946 => ((r4940 = r4945 → J1027 m4946) ∧ (¬ (r4940 = r4945) → Q 0 m4946))))) ∧ (((gh_iand_f (m 1 v3) 31) = 23 → w_House_repair m (fun r4949 m4950 => w_Model_repair m4950 (fun r4951 m4952 => ((r4949 = r4951 → J1027 m4952) ∧ (¬ (r4949 = r4951) → Q 0 m4952))))) ∧ (((gh_iand_f (m 1 v3) 31) = 24 → gh_i (v3 + 1) ∧ 0 ≤ v3 + 1 ∧ (v3 + 1) < m 0 3 ∧ gh_i (v3 + 2) ∧ 0 ≤ v3 + 2 ∧ (v3 + 2) < m 0 3 ∧ gh_i (v3 + 3) ∧ 0 ≤ v3 + 3 ∧ (v3 + 3) < m 0 3 ∧ w_House_trees (m 1 (v3 + 1)) (m 1 (v3 + 2)) (m 1 (v3 + 3)) m (fun r4964 m4965 => gh_i (v3 + 1) ∧ 0 ≤ v3 + 1 ∧ (v3 + 1) < m4965 0 3 ∧ gh_i (v3 + 2) ∧ 0 ≤ v3 + 2 ∧ (v3 + 2) < m4965 0 3 ∧ gh_i (v3 + 3) ∧ 0 ≤ v3 + 3 ∧ (v3 + 3) < m4965 0 3 ∧ w_Model_trees (m4965 1 (v3 + 1)) (m4965 1 (v3 + 2)) (m4965 1 (v3 + 3)) m4965 (fun r4975 m4976 => ((r4964 = r4975 → J1027 m4976) ∧ (¬ (r4964 = r4975) → Q 0 m4976))))) ∧ (((gh_iand_f (m 1 v3) 31) = 25 → gh_i (v3 + 1) ∧ 0 ≤ v3 + 1 ∧ (v3 + 1) < m 0 3 ∧ gh_i (v3 + 2) ∧ 0 ≤ v3 + 2 ∧ (v3 + 2) < m 0 3 ∧ w_House_pick (gh_lor_f (gh_lshl_f (m 1 (v3 + 1)) 32) (gh_land_f (m 1 (v3 + 2)) 4294967295)) m (fun r4985 m4986 => gh_i (v3 + 1) ∧ 0 ≤ v3 + 1 ∧ (v3 + 1) < m4986 0 3 ∧ gh_i (v3 + 2) ∧ 0 ≤ v3 + 2 ∧ (v3 + 2) < m4986 0 3 ∧ w_Model_pick (gh_lor_f (gh_lshl_f (m4986 1 (v3 + 1)) 32) (gh_land_f (m4986 1 (v3 + 2)) 4294967295)) m4986 (fun r4993 m4994 => ((r4985 = r4993 → J1027 m4994) ∧ (¬ (r4985 = r4993) → Q 0 m4994))))) ∧ (((gh_iand_f (m 1 v3) 31) = 26 → gh_i (v3 + 1) ∧ 0 ≤ v3 + 1 ∧ (v3 + 1) < m 0 3 ∧ k_House_step (m 1 (v3 + 1)) m ∧ gh_i (v3 + 1) ∧ 0 ≤ v3 + 1 ∧ (v3 + 1) < m 0 3 ∧ k_Model_step (m 1 (v3 + 1)) m ∧ (((x_House_step (m 1 (v3 + 1)) m) = (x_Model_step (m 1 (v3 + 1)) m) → J1027 m) ∧ (¬ ((x_House_step (m 1 (v3 + 1)) m) = (x_Model_step (m 1 (v3 + 1)) m)) → Q 0 m))) ∧ (((gh_iand_f (m 1 v3) 31) = 27 → (((x_House_deep m) = (x_Model_deep m) → J1027 m) ∧ (¬ ((x_House_deep m) = (x_Model_deep m)) → Q 0 m))) ∧ (((gh_iand_f (m 1 v3) 31) = 28 → gh_i (v3 + 1) ∧ 0 ≤ v3 + 1 ∧ (v3 + 1) < m 0 3 ∧ w_House_proper (m 1 (v3 + 1)) m (fun r5012 m5013 => gh_i (v3 + 1) ∧ 0 ≤ v3 + 1 ∧ (v3 + 1) < m5013 0 3 ∧ w_Model_proper (m5013 1 (v3 + 1)) m5013 (fun r5017 => ((r5012 = r5017 → J1027 m5013) ∧ (¬ (r5012 = r5017) → Q 0 m5013))))) ∧ (((gh_iand_f (m 1 v3) 31) = 29 → gh_i (v3 + 1) ∧ 0 ≤ v3 + 1 ∧ (v3 + 1) < m 0 3 ∧ w_House_properly (m 1 (v3 + 1)) m (fun r5024 m5025 => gh_i (v3 + 1) ∧ 0 ≤ v3 + 1 ∧ (v3 + 1) < m5025 0 3 ∧ w_Model_properly (m5025 1 (v3 + 1)) m5025 (fun r5029 m5030 => ((r5024 = r5029 → J1027 m5030) ∧ (¬ (r5024 = r5029) → Q 0 m5030))))) ∧ (((gh_iand_f (m 1 v3) 31) = 30 → w_House_digest m (fun r5033 m5034 => w_Model_digest m5034 (fun r5035 m5036 => ((r5033 = r5035 → J1027 m5036) ∧ (¬ (r5033 = r5035) → Q 0 m5036))))) ∧ (¬ ((gh_iand_f (m 1 v3) 31) = 0) → ¬ ((gh_iand_f (m 1 v3) 31) = 1) → ¬ ((gh_iand_f (m 1 v3) 31) = 2) → ¬ ((gh_iand_f (m 1 v3) 31) = 3) → ¬ ((gh_iand_f (m 1 v3) 31) = 4) → ¬ ((gh_iand_f (m 1 v3) 31) = 5) → ¬ ((gh_iand_f (m 1 v3) 31) = 6) → ¬ ((gh_iand_f (m 1 v3) 31) = 7) → ¬ ((gh_iand_f (m 1 v3) 31) = 8) → ¬ ((gh_iand_f (m 1 v3) 31) = 9) → ¬ ((gh_iand_f (m 1 v3) 31) = 10) → ¬ ((gh_iand_f (m 1 v3) 31) = 11) → ¬ ((gh_iand_f (m 1 v3) 31) = 12) → ¬ ((gh_iand_f (m 1 v3) 31) = 13) → ¬ ((gh_iand_f (m 1 v3) 31) = 14) → ¬ ((gh_iand_f (m 1 v3) 31) = 15) → ¬ ((gh_iand_f (m 1 v3) 31) = 16) → ¬ ((gh_iand_f (m 1 v3) 31) = 17) → ¬ ((gh_iand_f (m 1 v3) 31) = 18) → ¬ ((gh_iand_f (m 1 v3) 31) = 19) → ¬ ((gh_iand_f (m 1 v3) 31) = 20) → ¬ ((gh_iand_f (m 1 v3) 31) = 21) → ¬ ((gh_iand_f (m 1 v3) 31) = 22) → ¬ ((gh_iand_f (m 1 v3) 31) = 23) → ¬ ((gh_iand_f (m 1 v3) 31) = 24) → ¬ ((gh_iand_f (m 1 v3) 31) = 25) → ¬ ((gh_iand_f (m 1 v3) 31) = 26) → ¬ ((gh_iand_f (m 1 v3) 31) = 27) → ¬ ((gh_iand_f (m 1 v3) 31) = 28) → ¬ ((gh_iand_f (m 1 v3) 31) = 29) → ¬ ((gh_iand_f (m 1 v3) 31) = 30) → J1027 m))))))))))))))))))))))))))))))))) ∧ (¬ (v3 ≤ ((m 0 3) - 6)) → Q 1 m))
def w_Law (m : gh_M) (Q : Int → gh_M → Prop) : Prop := gh_M1 (fun K18 v3 m => f_Law_law_18 Q K18 v3 m) 0 m
theorem b_Law_law_18 {E : gh_E} {Q : Int → gh_M → Prop} {K18 : Int → gh_M → Prop} (d : Nat) (hK : ∀ (v3 : Int) (m : gh_M), gh_F m → K18 v3 m → gh_T E gh_MLaw (d + 36) 18 [(0, 2, 1), (1, 2, 2), (2, 2, 63), (3, 0, v3)] [] m (fun r m1 => gh_F m1 ∧ Q r m1)) (v3 : Int) (m : gh_M) (hF : gh_F m) (h : f_Law_law_18 Q K18 v3 m) : gh_T E gh_MLaw (d + 36) 18 [(0, 2, 1), (1, 2, 2), (2, 2, 63), (3, 0, v3)] [] m (fun r m1 => gh_F m1 ∧ Q r m1) := by
  have hK18 := hK
  unfold f_Law_law_18 at h
  refine gh_iload_n gd_Law_law_18 3 rfl ?_
  refine gh_aload_n gd_Law_law_19 0 rfl (by decide) ?_
  refine gh_slen gd_Law_law_20 ?_
  refine gh_bipush gd_Law_law_21 (by decide) (gh_r0 rfl) ?_
  obtain ⟨q4610, h⟩ := h
  refine gh_isub gd_Law_law_23 q4610 ?_
  obtain ⟨hA, hB⟩ := h
  refine gh_jgt (tgt := 1033) gd_Law_law_24 (by decide) (fun c4611 => ?_) (fun c4611 => ?_)
  · have h := hA c4611
    refine gh_aload_n gd_Law_law_27 0 rfl (by decide) ?_
    refine gh_iload_n gd_Law_law_28 3 rfl ?_
    obtain ⟨q4612, h⟩ := h
    obtain ⟨q4613, h⟩ := h
    refine gh_sald gd_Law_law_29 q4612 q4613 ?_
    refine gh_bipush gd_Law_law_30 (by decide) (gh_r0 rfl) ?_
    refine gh_iand gd_Law_law_32 ?_
    obtain ⟨J1027, hJ1027, h⟩ := h
    have hJ1027 : ∀ (m : gh_M), gh_F m → J1027 m → gh_T E gh_MLaw (d + 36) 1027 [(0, 2, 1), (1, 2, 2), (2, 2, 63), (3, 0, v3)] [] m (fun r m1 => gh_F m1 ∧ Q r m1) := by
      intro m hF hj
      have h := hJ1027 m hj
      obtain ⟨q4614, h⟩ := h
      refine gh_iinc (L2 := [(3, 0, v3 + 6), (0, 2, 1), (1, 2, 2), (2, 2, 63)]) gd_Law_law_1027 3 rfl q4614 (by decide) rfl ?_
      refine gh_goto (tgt := 18) gd_Law_law_1030 (by decide) ?_
      refine gh_pick (L2 := [(0, 2, 1), (1, 2, 2), (2, 2, 63), (3, 0, v3 + 6)]) [1, 2, 3, 0] rfl ?_
      exact hK18 (v3 + 6) m hF h
    obtain ⟨hA, h⟩ := h
    by_cases c4615 : (gh_iand_f (m 1 v3) 31) = 0
    · have h := hA c4615
      refine gh_tabIn (tgt := 172) gd_Law_law_33 (by rw [c4615]; decide) (by rw [c4615]; decide) (by rw [c4615]; rfl) (by decide) ?_
      refine gh_aload_n gd_Law_law_172 1 rfl (by decide) ?_
      refine gh_aload_n gd_Law_law_173 0 rfl (by decide) ?_
      refine gh_iload_n gd_Law_law_174 3 rfl ?_
      refine gh_iconst gd_Law_law_175 (gh_r0 rfl) ?_
      obtain ⟨q4616, h⟩ := h
      refine gh_iadd gd_Law_law_176 q4616 ?_
      obtain ⟨q4617, h⟩ := h
      obtain ⟨q4618, h⟩ := h
      refine gh_sald gd_Law_law_177 q4617 q4618 ?_
      refine gh_aload_n gd_Law_law_178 0 rfl (by decide) ?_
      refine gh_iload_n gd_Law_law_179 3 rfl ?_
      refine gh_iconst gd_Law_law_180 (gh_r0 rfl) ?_
      obtain ⟨q4619, h⟩ := h
      refine gh_iadd gd_Law_law_181 q4619 ?_
      obtain ⟨q4620, h⟩ := h
      obtain ⟨q4621, h⟩ := h
      refine gh_sald gd_Law_law_182 q4620 q4621 ?_
      refine gh_aload_n gd_Law_law_183 0 rfl (by decide) ?_
      refine gh_iload_n gd_Law_law_184 3 rfl ?_
      refine gh_iconst gd_Law_law_185 (gh_r0 rfl) ?_
      obtain ⟨q4622, h⟩ := h
      refine gh_iadd gd_Law_law_186 q4622 ?_
      obtain ⟨q4623, h⟩ := h
      obtain ⟨q4624, h⟩ := h
      refine gh_sald gd_Law_law_187 q4623 q4624 ?_
      refine gh_aload_n gd_Law_law_188 0 rfl (by decide) ?_
      refine gh_iload_n gd_Law_law_189 3 rfl ?_
      refine gh_iconst gd_Law_law_190 (gh_r0 rfl) ?_
      obtain ⟨q4625, h⟩ := h
      refine gh_iadd gd_Law_law_191 q4625 ?_
      obtain ⟨q4626, h⟩ := h
      obtain ⟨q4627, h⟩ := h
      refine gh_sald gd_Law_law_192 q4626 q4627 ?_
      refine gh_aload_n gd_Law_law_193 0 rfl (by decide) ?_
      refine gh_iload_n gd_Law_law_194 3 rfl ?_
      refine gh_iconst gd_Law_law_195 (gh_r0 rfl) ?_
      obtain ⟨q4628, h⟩ := h
      refine gh_iadd gd_Law_law_196 q4628 ?_
      obtain ⟨q4629, h⟩ := h
      obtain ⟨q4630, h⟩ := h
      refine gh_sald gd_Law_law_197 q4629 q4630 ?_
      refine cv_House_type (d := d + 35) gd_Law_law_198 gh_k667 hF (Nat.le_of_ble_eq_true rfl) (gh_C.mono (s_House_type (d + 34) (m 1 (v3 + 1)) (m 1 (v3 + 2)) (m 1 (v3 + 3)) (m 1 (v3 + 4)) (m 1 (v3 + 5)) hF h) (fun r4631 m4632 hq => ?_))
      obtain ⟨hF, h⟩ := hq
      refine gh_aload_n gd_Law_law_201 2 rfl (by decide) ?_
      refine gh_aload_n gd_Law_law_202 0 rfl (by decide) ?_
      refine gh_iload_n gd_Law_law_203 3 rfl ?_
      refine gh_iconst gd_Law_law_204 (gh_r0 rfl) ?_
      obtain ⟨q4633, h⟩ := h
      refine gh_iadd gd_Law_law_205 q4633 ?_
      obtain ⟨q4634, h⟩ := h
      obtain ⟨q4635, h⟩ := h
      refine gh_sald gd_Law_law_206 q4634 q4635 ?_
      refine gh_aload_n gd_Law_law_207 0 rfl (by decide) ?_
      refine gh_iload_n gd_Law_law_208 3 rfl ?_
      refine gh_iconst gd_Law_law_209 (gh_r0 rfl) ?_
      obtain ⟨q4636, h⟩ := h
      refine gh_iadd gd_Law_law_210 q4636 ?_
      obtain ⟨q4637, h⟩ := h
      obtain ⟨q4638, h⟩ := h
      refine gh_sald gd_Law_law_211 q4637 q4638 ?_
      refine gh_aload_n gd_Law_law_212 0 rfl (by decide) ?_
      refine gh_iload_n gd_Law_law_213 3 rfl ?_
      refine gh_iconst gd_Law_law_214 (gh_r0 rfl) ?_
      obtain ⟨q4639, h⟩ := h
      refine gh_iadd gd_Law_law_215 q4639 ?_
      obtain ⟨q4640, h⟩ := h
      obtain ⟨q4641, h⟩ := h
      refine gh_sald gd_Law_law_216 q4640 q4641 ?_
      refine gh_aload_n gd_Law_law_217 0 rfl (by decide) ?_
      refine gh_iload_n gd_Law_law_218 3 rfl ?_
      refine gh_iconst gd_Law_law_219 (gh_r0 rfl) ?_
      obtain ⟨q4642, h⟩ := h
      refine gh_iadd gd_Law_law_220 q4642 ?_
      obtain ⟨q4643, h⟩ := h
      obtain ⟨q4644, h⟩ := h
      refine gh_sald gd_Law_law_221 q4643 q4644 ?_
      refine gh_aload_n gd_Law_law_222 0 rfl (by decide) ?_
      refine gh_iload_n gd_Law_law_223 3 rfl ?_
      refine gh_iconst gd_Law_law_224 (gh_r0 rfl) ?_
      obtain ⟨q4645, h⟩ := h
      refine gh_iadd gd_Law_law_225 q4645 ?_
      obtain ⟨q4646, h⟩ := h
      obtain ⟨q4647, h⟩ := h
      refine gh_sald gd_Law_law_226 q4646 q4647 ?_
      refine cv_Model_type (d := d + 35) gd_Law_law_227 gh_k1624 hF (Nat.le_of_ble_eq_true rfl) (gh_C.mono (s_Model_type (d + 33) (m4632 1 (v3 + 1)) (m4632 1 (v3 + 2)) (m4632 1 (v3 + 3)) (m4632 1 (v3 + 4)) (m4632 1 (v3 + 5)) hF h) (fun r4648 m4649 hq => ?_))
      obtain ⟨hF, h⟩ := hq
      obtain ⟨hA, hB⟩ := h
      refine gh_jeq (tgt := 1027) gd_Law_law_230 (by decide) (fun c4650 => ?_) (fun c4650 => ?_)
      · have h := hA c4650
        exact hJ1027 m4649 hF h
      · have h := hB c4650
        refine gh_iconst gd_Law_law_233 (gh_r0 rfl) ?_
        exact gh_ret8 rfl gd_Law_law_234 (by decide) ⟨hF, h⟩
    obtain ⟨hA, h⟩ := h
    by_cases c4651 : (gh_iand_f (m 1 v3) 31) = 1
    · have h := hA c4651
      refine gh_tabIn (tgt := 235) gd_Law_law_33 (by rw [c4651]; decide) (by rw [c4651]; decide) (by rw [c4651]; rfl) (by decide) ?_
      refine gh_aload_n gd_Law_law_235 1 rfl (by decide) ?_
      refine cv_House_wipe (d := d + 35) gd_Law_law_236 gh_k681 hF (Nat.le_of_ble_eq_true rfl) (gh_C.mono (s_House_wipe (d + 35) hF h) (fun r4652 m4653 hq => ?_))
      obtain ⟨hF, h⟩ := hq
      refine gh_aload_n gd_Law_law_239 2 rfl (by decide) ?_
      refine cv_Model_wipe (d := d + 35) gd_Law_law_240 gh_k1641 hF (Nat.le_of_ble_eq_true rfl) (gh_C.mono (s_Model_wipe (d + 35) hF h) (fun r4654 m4655 hq => ?_))
      obtain ⟨hF, h⟩ := hq
      obtain ⟨hA, hB⟩ := h
      refine gh_jeq (tgt := 1027) gd_Law_law_243 (by decide) (fun c4656 => ?_) (fun c4656 => ?_)
      · have h := hA c4656
        exact hJ1027 m4655 hF h
      · have h := hB c4656
        refine gh_iconst gd_Law_law_246 (gh_r0 rfl) ?_
        exact gh_ret8 rfl gd_Law_law_247 (by decide) ⟨hF, h⟩
    obtain ⟨hA, h⟩ := h
    by_cases c4657 : (gh_iand_f (m 1 v3) 31) = 2
    · have h := hA c4657
      refine gh_tabIn (tgt := 248) gd_Law_law_33 (by rw [c4657]; decide) (by rw [c4657]; decide) (by rw [c4657]; rfl) (by decide) ?_
      refine gh_aload_n gd_Law_law_248 1 rfl (by decide) ?_
      refine gh_aload_n gd_Law_law_249 0 rfl (by decide) ?_
      refine gh_iload_n gd_Law_law_250 3 rfl ?_
      refine gh_iconst gd_Law_law_251 (gh_r0 rfl) ?_
      obtain ⟨q4658, h⟩ := h
      refine gh_iadd gd_Law_law_252 q4658 ?_
      obtain ⟨q4659, h⟩ := h
      obtain ⟨q4660, h⟩ := h
      refine gh_sald gd_Law_law_253 q4659 q4660 ?_
      obtain ⟨q4661, h⟩ := h
      refine cv_House_sign (d := d + 35) gd_Law_law_254 gh_k685 hF (Nat.le_of_ble_eq_true rfl) (gh_C.pe (e_House_sign (d + 34) (m 1 (v3 + 1)) hF q4661) ?_)
      refine gh_aload_n gd_Law_law_257 2 rfl (by decide) ?_
      refine gh_aload_n gd_Law_law_258 0 rfl (by decide) ?_
      refine gh_iload_n gd_Law_law_259 3 rfl ?_
      refine gh_iconst gd_Law_law_260 (gh_r0 rfl) ?_
      obtain ⟨q4662, h⟩ := h
      refine gh_iadd gd_Law_law_261 q4662 ?_
      obtain ⟨q4663, h⟩ := h
      obtain ⟨q4664, h⟩ := h
      refine gh_sald gd_Law_law_262 q4663 q4664 ?_
      obtain ⟨q4665, h⟩ := h
      refine cv_Model_sign (d := d + 35) gd_Law_law_263 gh_k1645 hF (Nat.le_of_ble_eq_true rfl) (gh_C.pe (e_Model_sign (d + 34) (m 1 (v3 + 1)) hF q4665) ?_)
      obtain ⟨hA, hB⟩ := h
      refine gh_jeq (tgt := 1027) gd_Law_law_266 (by decide) (fun c4666 => ?_) (fun c4666 => ?_)
      · have h := hA c4666
        exact hJ1027 m hF h
      · have h := hB c4666
        refine gh_iconst gd_Law_law_269 (gh_r0 rfl) ?_
        exact gh_ret8 rfl gd_Law_law_270 (by decide) ⟨hF, h⟩
    obtain ⟨hA, h⟩ := h
    by_cases c4667 : (gh_iand_f (m 1 v3) 31) = 3
    · have h := hA c4667
      refine gh_tabIn (tgt := 271) gd_Law_law_33 (by rw [c4667]; decide) (by rw [c4667]; decide) (by rw [c4667]; rfl) (by decide) ?_
      refine gh_aload_n gd_Law_law_271 1 rfl (by decide) ?_
      refine cv_House_read (d := d + 35) gd_Law_law_272 gh_k693 hF (Nat.le_of_ble_eq_true rfl) (gh_C.mono (s_House_read (d + 29) hF h) (fun r4668 m4669 hq => ?_))
      obtain ⟨hF, h⟩ := hq
      refine gh_aload_n gd_Law_law_275 2 rfl (by decide) ?_
      refine cv_Model_read (d := d + 35) gd_Law_law_276 gh_k1649 hF (Nat.le_of_ble_eq_true rfl) (gh_C.mono (s_Model_read (d + 28) hF h) (fun r4670 m4671 hq => ?_))
      obtain ⟨hF, h⟩ := hq
      obtain ⟨hA, hB⟩ := h
      refine gh_jeq (tgt := 1027) gd_Law_law_279 (by decide) (fun c4672 => ?_) (fun c4672 => ?_)
      · have h := hA c4672
        exact hJ1027 m4671 hF h
      · have h := hB c4672
        refine gh_iconst gd_Law_law_282 (gh_r0 rfl) ?_
        exact gh_ret8 rfl gd_Law_law_283 (by decide) ⟨hF, h⟩
    obtain ⟨hA, h⟩ := h
    by_cases c4673 : (gh_iand_f (m 1 v3) 31) = 4
    · have h := hA c4673
      refine gh_tabIn (tgt := 284) gd_Law_law_33 (by rw [c4673]; decide) (by rw [c4673]; decide) (by rw [c4673]; rfl) (by decide) ?_
      refine gh_aload_n gd_Law_law_284 1 rfl (by decide) ?_
      refine gh_aload_n gd_Law_law_285 0 rfl (by decide) ?_
      refine gh_iload_n gd_Law_law_286 3 rfl ?_
      refine gh_iconst gd_Law_law_287 (gh_r0 rfl) ?_
      obtain ⟨q4674, h⟩ := h
      refine gh_iadd gd_Law_law_288 q4674 ?_
      obtain ⟨q4675, h⟩ := h
      obtain ⟨q4676, h⟩ := h
      refine gh_sald gd_Law_law_289 q4675 q4676 ?_
      refine cv_House_fault (d := d + 35) gd_Law_law_290 gh_k953 hF (Nat.le_of_ble_eq_true rfl) (gh_C.pw (s_House_fault (d + 35) (m 1 (v3 + 1)) hF h) (fun r4677 h => ?_))
      refine gh_aload_n gd_Law_law_293 2 rfl (by decide) ?_
      refine gh_aload_n gd_Law_law_294 0 rfl (by decide) ?_
      refine gh_iload_n gd_Law_law_295 3 rfl ?_
      refine gh_iconst gd_Law_law_296 (gh_r0 rfl) ?_
      obtain ⟨q4679, h⟩ := h
      refine gh_iadd gd_Law_law_297 q4679 ?_
      obtain ⟨q4680, h⟩ := h
      obtain ⟨q4681, h⟩ := h
      refine gh_sald gd_Law_law_298 q4680 q4681 ?_
      refine cv_Model_fault (d := d + 35) gd_Law_law_299 gh_k1808 hF (Nat.le_of_ble_eq_true rfl) (gh_C.pe (e_Model_fault (d + 34) (m 1 (v3 + 1)) hF) ?_)
      obtain ⟨hA, hB⟩ := h
      refine gh_jeq (tgt := 1027) gd_Law_law_302 (by decide) (fun c4682 => ?_) (fun c4682 => ?_)
      · have h := hA c4682
        exact hJ1027 m hF h
      · have h := hB c4682
        refine gh_iconst gd_Law_law_305 (gh_r0 rfl) ?_
        exact gh_ret8 rfl gd_Law_law_306 (by decide) ⟨hF, h⟩
    obtain ⟨hA, h⟩ := h
    by_cases c4683 : (gh_iand_f (m 1 v3) 31) = 5
    · have h := hA c4683
      refine gh_tabIn (tgt := 307) gd_Law_law_33 (by rw [c4683]; decide) (by rw [c4683]; decide) (by rw [c4683]; rfl) (by decide) ?_
      refine gh_aload_n gd_Law_law_307 1 rfl (by decide) ?_
      refine gh_aload_n gd_Law_law_308 0 rfl (by decide) ?_
      refine gh_iload_n gd_Law_law_309 3 rfl ?_
      refine gh_iconst gd_Law_law_310 (gh_r0 rfl) ?_
      obtain ⟨q4684, h⟩ := h
      refine gh_iadd gd_Law_law_311 q4684 ?_
      obtain ⟨q4685, h⟩ := h
      obtain ⟨q4686, h⟩ := h
      refine gh_sald gd_Law_law_312 q4685 q4686 ?_
      refine cv_House_sum (d := d + 35) gd_Law_law_313 gh_k957 hF (Nat.le_of_ble_eq_true rfl) (gh_C.pw (s_House_sum (d + 33) (m 1 (v3 + 1)) hF h) (fun r4687 h => ?_))
      refine gh_aload_n gd_Law_law_316 2 rfl (by decide) ?_
      refine gh_aload_n gd_Law_law_317 0 rfl (by decide) ?_
      refine gh_iload_n gd_Law_law_318 3 rfl ?_
      refine gh_iconst gd_Law_law_319 (gh_r0 rfl) ?_
      obtain ⟨q4689, h⟩ := h
      refine gh_iadd gd_Law_law_320 q4689 ?_
      obtain ⟨q4690, h⟩ := h
      obtain ⟨q4691, h⟩ := h
      refine gh_sald gd_Law_law_321 q4690 q4691 ?_
      refine cv_Model_sum (d := d + 35) gd_Law_law_322 gh_k1859 hF (Nat.le_of_ble_eq_true rfl) (gh_C.pw (s_Model_sum (d + 32) (m 1 (v3 + 1)) hF h) (fun r4692 h => ?_))
      obtain ⟨hA, hB⟩ := h
      refine gh_jeq (tgt := 1027) gd_Law_law_325 (by decide) (fun c4694 => ?_) (fun c4694 => ?_)
      · have h := hA c4694
        exact hJ1027 m hF h
      · have h := hB c4694
        refine gh_iconst gd_Law_law_328 (gh_r0 rfl) ?_
        exact gh_ret8 rfl gd_Law_law_329 (by decide) ⟨hF, h⟩
    obtain ⟨hA, h⟩ := h
    by_cases c4695 : (gh_iand_f (m 1 v3) 31) = 6
    · have h := hA c4695
      refine gh_tabIn (tgt := 330) gd_Law_law_33 (by rw [c4695]; decide) (by rw [c4695]; decide) (by rw [c4695]; rfl) (by decide) ?_
      refine gh_aload_n gd_Law_law_330 1 rfl (by decide) ?_
      refine gh_aload_n gd_Law_law_331 0 rfl (by decide) ?_
      refine gh_iload_n gd_Law_law_332 3 rfl ?_
      refine gh_iconst gd_Law_law_333 (gh_r0 rfl) ?_
      obtain ⟨q4696, h⟩ := h
      refine gh_iadd gd_Law_law_334 q4696 ?_
      obtain ⟨q4697, h⟩ := h
      obtain ⟨q4698, h⟩ := h
      refine gh_sald gd_Law_law_335 q4697 q4698 ?_
      refine gh_aload_n gd_Law_law_336 0 rfl (by decide) ?_
      refine gh_iload_n gd_Law_law_337 3 rfl ?_
      refine gh_iconst gd_Law_law_338 (gh_r0 rfl) ?_
      obtain ⟨q4699, h⟩ := h
      refine gh_iadd gd_Law_law_339 q4699 ?_
      obtain ⟨q4700, h⟩ := h
      obtain ⟨q4701, h⟩ := h
      refine gh_sald gd_Law_law_340 q4700 q4701 ?_
      refine cv_House_name (d := d + 35) gd_Law_law_341 gh_k979 hF (Nat.le_of_ble_eq_true rfl) (gh_C.pw (s_House_name (d + 34) (m 1 (v3 + 1)) (m 1 (v3 + 2)) hF h) (fun r4702 h => ?_))
      refine gh_aload_n gd_Law_law_344 2 rfl (by decide) ?_
      refine gh_aload_n gd_Law_law_345 0 rfl (by decide) ?_
      refine gh_iload_n gd_Law_law_346 3 rfl ?_
      refine gh_iconst gd_Law_law_347 (gh_r0 rfl) ?_
      obtain ⟨q4704, h⟩ := h
      refine gh_iadd gd_Law_law_348 q4704 ?_
      obtain ⟨q4705, h⟩ := h
      obtain ⟨q4706, h⟩ := h
      refine gh_sald gd_Law_law_349 q4705 q4706 ?_
      refine gh_aload_n gd_Law_law_350 0 rfl (by decide) ?_
      refine gh_iload_n gd_Law_law_351 3 rfl ?_
      refine gh_iconst gd_Law_law_352 (gh_r0 rfl) ?_
      obtain ⟨q4707, h⟩ := h
      refine gh_iadd gd_Law_law_353 q4707 ?_
      obtain ⟨q4708, h⟩ := h
      obtain ⟨q4709, h⟩ := h
      refine gh_sald gd_Law_law_354 q4708 q4709 ?_
      refine cv_Model_name (d := d + 35) gd_Law_law_355 gh_k1812 hF (Nat.le_of_ble_eq_true rfl) (gh_C.pw (s_Model_name (d + 33) (m 1 (v3 + 1)) (m 1 (v3 + 2)) hF h) (fun r4710 h => ?_))
      obtain ⟨hA, hB⟩ := h
      refine gh_jeq (tgt := 1027) gd_Law_law_358 (by decide) (fun c4712 => ?_) (fun c4712 => ?_)
      · have h := hA c4712
        exact hJ1027 m hF h
      · have h := hB c4712
        refine gh_iconst gd_Law_law_361 (gh_r0 rfl) ?_
        exact gh_ret8 rfl gd_Law_law_362 (by decide) ⟨hF, h⟩
    obtain ⟨hA, h⟩ := h
    by_cases c4713 : (gh_iand_f (m 1 v3) 31) = 7
    · have h := hA c4713
      refine gh_tabIn (tgt := 363) gd_Law_law_33 (by rw [c4713]; decide) (by rw [c4713]; decide) (by rw [c4713]; rfl) (by decide) ?_
      refine gh_aload_n gd_Law_law_363 1 rfl (by decide) ?_
      refine gh_aload_n gd_Law_law_364 0 rfl (by decide) ?_
      refine gh_iload_n gd_Law_law_365 3 rfl ?_
      refine gh_iconst gd_Law_law_366 (gh_r0 rfl) ?_
      obtain ⟨q4714, h⟩ := h
      refine gh_iadd gd_Law_law_367 q4714 ?_
      obtain ⟨q4715, h⟩ := h
      obtain ⟨q4716, h⟩ := h
      refine gh_sald gd_Law_law_368 q4715 q4716 ?_
      refine gh_aload_n gd_Law_law_369 0 rfl (by decide) ?_
      refine gh_iload_n gd_Law_law_370 3 rfl ?_
      refine gh_iconst gd_Law_law_371 (gh_r0 rfl) ?_
      obtain ⟨q4717, h⟩ := h
      refine gh_iadd gd_Law_law_372 q4717 ?_
      obtain ⟨q4718, h⟩ := h
      obtain ⟨q4719, h⟩ := h
      refine gh_sald gd_Law_law_373 q4718 q4719 ?_
      refine cv_House_nameSign (d := d + 35) gd_Law_law_374 gh_k988 hF (Nat.le_of_ble_eq_true rfl) (gh_C.pw (s_House_nameSign (d + 34) (m 1 (v3 + 1)) (m 1 (v3 + 2)) hF h) (fun r4720 h => ?_))
      refine gh_aload_n gd_Law_law_377 2 rfl (by decide) ?_
      refine gh_aload_n gd_Law_law_378 0 rfl (by decide) ?_
      refine gh_iload_n gd_Law_law_379 3 rfl ?_
      refine gh_iconst gd_Law_law_380 (gh_r0 rfl) ?_
      obtain ⟨q4722, h⟩ := h
      refine gh_iadd gd_Law_law_381 q4722 ?_
      obtain ⟨q4723, h⟩ := h
      obtain ⟨q4724, h⟩ := h
      refine gh_sald gd_Law_law_382 q4723 q4724 ?_
      refine gh_aload_n gd_Law_law_383 0 rfl (by decide) ?_
      refine gh_iload_n gd_Law_law_384 3 rfl ?_
      refine gh_iconst gd_Law_law_385 (gh_r0 rfl) ?_
      obtain ⟨q4725, h⟩ := h
      refine gh_iadd gd_Law_law_386 q4725 ?_
      obtain ⟨q4726, h⟩ := h
      obtain ⟨q4727, h⟩ := h
      refine gh_sald gd_Law_law_387 q4726 q4727 ?_
      obtain ⟨q4728, h⟩ := h
      refine cv_Model_nameSign (d := d + 35) gd_Law_law_388 gh_k1827 hF (Nat.le_of_ble_eq_true rfl) (gh_C.pe (e_Model_nameSign (d + 33) (m 1 (v3 + 1)) (m 1 (v3 + 2)) hF q4728) ?_)
      obtain ⟨hA, hB⟩ := h
      refine gh_jeq (tgt := 1027) gd_Law_law_391 (by decide) (fun c4729 => ?_) (fun c4729 => ?_)
      · have h := hA c4729
        exact hJ1027 m hF h
      · have h := hB c4729
        refine gh_iconst gd_Law_law_394 (gh_r0 rfl) ?_
        exact gh_ret8 rfl gd_Law_law_395 (by decide) ⟨hF, h⟩
    obtain ⟨hA, h⟩ := h
    by_cases c4730 : (gh_iand_f (m 1 v3) 31) = 8
    · have h := hA c4730
      refine gh_tabIn (tgt := 396) gd_Law_law_33 (by rw [c4730]; decide) (by rw [c4730]; decide) (by rw [c4730]; rfl) (by decide) ?_
      refine gh_aload_n gd_Law_law_396 1 rfl (by decide) ?_
      refine gh_aload_n gd_Law_law_397 0 rfl (by decide) ?_
      refine gh_iload_n gd_Law_law_398 3 rfl ?_
      refine gh_iconst gd_Law_law_399 (gh_r0 rfl) ?_
      obtain ⟨q4731, h⟩ := h
      refine gh_iadd gd_Law_law_400 q4731 ?_
      obtain ⟨q4732, h⟩ := h
      obtain ⟨q4733, h⟩ := h
      refine gh_sald gd_Law_law_401 q4732 q4733 ?_
      refine gh_aload_n gd_Law_law_402 0 rfl (by decide) ?_
      refine gh_iload_n gd_Law_law_403 3 rfl ?_
      refine gh_iconst gd_Law_law_404 (gh_r0 rfl) ?_
      obtain ⟨q4734, h⟩ := h
      refine gh_iadd gd_Law_law_405 q4734 ?_
      obtain ⟨q4735, h⟩ := h
      obtain ⟨q4736, h⟩ := h
      refine gh_sald gd_Law_law_406 q4735 q4736 ?_
      obtain ⟨q4737, h⟩ := h
      refine cv_House_rule (d := d + 35) gd_Law_law_407 gh_k996 hF (Nat.le_of_ble_eq_true rfl) (gh_C.pe (e_House_rule (d + 34) (m 1 (v3 + 1)) (m 1 (v3 + 2)) hF q4737) ?_)
      refine gh_aload_n gd_Law_law_410 2 rfl (by decide) ?_
      refine gh_aload_n gd_Law_law_411 0 rfl (by decide) ?_
      refine gh_iload_n gd_Law_law_412 3 rfl ?_
      refine gh_iconst gd_Law_law_413 (gh_r0 rfl) ?_
      obtain ⟨q4738, h⟩ := h
      refine gh_iadd gd_Law_law_414 q4738 ?_
      obtain ⟨q4739, h⟩ := h
      obtain ⟨q4740, h⟩ := h
      refine gh_sald gd_Law_law_415 q4739 q4740 ?_
      refine gh_aload_n gd_Law_law_416 0 rfl (by decide) ?_
      refine gh_iload_n gd_Law_law_417 3 rfl ?_
      refine gh_iconst gd_Law_law_418 (gh_r0 rfl) ?_
      obtain ⟨q4741, h⟩ := h
      refine gh_iadd gd_Law_law_419 q4741 ?_
      obtain ⟨q4742, h⟩ := h
      obtain ⟨q4743, h⟩ := h
      refine gh_sald gd_Law_law_420 q4742 q4743 ?_
      obtain ⟨q4744, h⟩ := h
      refine cv_Model_rule (d := d + 35) gd_Law_law_421 gh_k1831 hF (Nat.le_of_ble_eq_true rfl) (gh_C.pe (e_Model_rule (d + 33) (m 1 (v3 + 1)) (m 1 (v3 + 2)) hF q4744) ?_)
      obtain ⟨hA, hB⟩ := h
      refine gh_jeq (tgt := 1027) gd_Law_law_424 (by decide) (fun c4745 => ?_) (fun c4745 => ?_)
      · have h := hA c4745
        exact hJ1027 m hF h
      · have h := hB c4745
        refine gh_iconst gd_Law_law_427 (gh_r0 rfl) ?_
        exact gh_ret8 rfl gd_Law_law_428 (by decide) ⟨hF, h⟩
    obtain ⟨hA, h⟩ := h
    by_cases c4746 : (gh_iand_f (m 1 v3) 31) = 9
    · have h := hA c4746
      refine gh_tabIn (tgt := 429) gd_Law_law_33 (by rw [c4746]; decide) (by rw [c4746]; decide) (by rw [c4746]; rfl) (by decide) ?_
      refine gh_aload_n gd_Law_law_429 1 rfl (by decide) ?_
      refine gh_aload_n gd_Law_law_430 0 rfl (by decide) ?_
      refine gh_iload_n gd_Law_law_431 3 rfl ?_
      refine gh_iconst gd_Law_law_432 (gh_r0 rfl) ?_
      obtain ⟨q4747, h⟩ := h
      refine gh_iadd gd_Law_law_433 q4747 ?_
      obtain ⟨q4748, h⟩ := h
      obtain ⟨q4749, h⟩ := h
      refine gh_sald gd_Law_law_434 q4748 q4749 ?_
      refine gh_aload_n gd_Law_law_435 0 rfl (by decide) ?_
      refine gh_iload_n gd_Law_law_436 3 rfl ?_
      refine gh_iconst gd_Law_law_437 (gh_r0 rfl) ?_
      obtain ⟨q4750, h⟩ := h
      refine gh_iadd gd_Law_law_438 q4750 ?_
      obtain ⟨q4751, h⟩ := h
      obtain ⟨q4752, h⟩ := h
      refine gh_sald gd_Law_law_439 q4751 q4752 ?_
      obtain ⟨q4753, h⟩ := h
      refine cv_House_part (d := d + 35) gd_Law_law_440 gh_k1004 hF (Nat.le_of_ble_eq_true rfl) (gh_C.pe (e_House_part (d + 34) (m 1 (v3 + 1)) (m 1 (v3 + 2)) hF q4753) ?_)
      refine gh_aload_n gd_Law_law_443 2 rfl (by decide) ?_
      refine gh_aload_n gd_Law_law_444 0 rfl (by decide) ?_
      refine gh_iload_n gd_Law_law_445 3 rfl ?_
      refine gh_iconst gd_Law_law_446 (gh_r0 rfl) ?_
      obtain ⟨q4754, h⟩ := h
      refine gh_iadd gd_Law_law_447 q4754 ?_
      obtain ⟨q4755, h⟩ := h
      obtain ⟨q4756, h⟩ := h
      refine gh_sald gd_Law_law_448 q4755 q4756 ?_
      refine gh_aload_n gd_Law_law_449 0 rfl (by decide) ?_
      refine gh_iload_n gd_Law_law_450 3 rfl ?_
      refine gh_iconst gd_Law_law_451 (gh_r0 rfl) ?_
      obtain ⟨q4757, h⟩ := h
      refine gh_iadd gd_Law_law_452 q4757 ?_
      obtain ⟨q4758, h⟩ := h
      obtain ⟨q4759, h⟩ := h
      refine gh_sald gd_Law_law_453 q4758 q4759 ?_
      obtain ⟨q4760, h⟩ := h
      refine cv_Model_part (d := d + 35) gd_Law_law_454 gh_k1839 hF (Nat.le_of_ble_eq_true rfl) (gh_C.pe (e_Model_part (d + 33) (m 1 (v3 + 1)) (m 1 (v3 + 2)) hF q4760) ?_)
      obtain ⟨hA, hB⟩ := h
      refine gh_jeq (tgt := 1027) gd_Law_law_457 (by decide) (fun c4761 => ?_) (fun c4761 => ?_)
      · have h := hA c4761
        exact hJ1027 m hF h
      · have h := hB c4761
        refine gh_iconst gd_Law_law_460 (gh_r0 rfl) ?_
        exact gh_ret8 rfl gd_Law_law_461 (by decide) ⟨hF, h⟩
    obtain ⟨hA, h⟩ := h
    by_cases c4762 : (gh_iand_f (m 1 v3) 31) = 10
    · have h := hA c4762
      refine gh_tabIn (tgt := 462) gd_Law_law_33 (by rw [c4762]; decide) (by rw [c4762]; decide) (by rw [c4762]; rfl) (by decide) ?_
      refine gh_aload_n gd_Law_law_462 1 rfl (by decide) ?_
      refine gh_aload_n gd_Law_law_463 0 rfl (by decide) ?_
      refine gh_iload_n gd_Law_law_464 3 rfl ?_
      refine gh_iconst gd_Law_law_465 (gh_r0 rfl) ?_
      obtain ⟨q4763, h⟩ := h
      refine gh_iadd gd_Law_law_466 q4763 ?_
      obtain ⟨q4764, h⟩ := h
      obtain ⟨q4765, h⟩ := h
      refine gh_sald gd_Law_law_467 q4764 q4765 ?_
      obtain ⟨q4766, h⟩ := h
      refine cv_House_first (d := d + 35) gd_Law_law_468 gh_k1009 hF (Nat.le_of_ble_eq_true rfl) (gh_C.pe (e_House_first (d + 34) (m 1 (v3 + 1)) hF q4766) ?_)
      refine gh_aload_n gd_Law_law_471 2 rfl (by decide) ?_
      refine gh_aload_n gd_Law_law_472 0 rfl (by decide) ?_
      refine gh_iload_n gd_Law_law_473 3 rfl ?_
      refine gh_iconst gd_Law_law_474 (gh_r0 rfl) ?_
      obtain ⟨q4767, h⟩ := h
      refine gh_iadd gd_Law_law_475 q4767 ?_
      obtain ⟨q4768, h⟩ := h
      obtain ⟨q4769, h⟩ := h
      refine gh_sald gd_Law_law_476 q4768 q4769 ?_
      obtain ⟨q4770, h⟩ := h
      refine cv_Model_first (d := d + 35) gd_Law_law_477 gh_k1843 hF (Nat.le_of_ble_eq_true rfl) (gh_C.pe (e_Model_first (d + 33) (m 1 (v3 + 1)) hF q4770) ?_)
      obtain ⟨hA, hB⟩ := h
      refine gh_jeq (tgt := 1027) gd_Law_law_480 (by decide) (fun c4771 => ?_) (fun c4771 => ?_)
      · have h := hA c4771
        exact hJ1027 m hF h
      · have h := hB c4771
        refine gh_iconst gd_Law_law_483 (gh_r0 rfl) ?_
        exact gh_ret8 rfl gd_Law_law_484 (by decide) ⟨hF, h⟩
    obtain ⟨hA, h⟩ := h
    by_cases c4772 : (gh_iand_f (m 1 v3) 31) = 11
    · have h := hA c4772
      refine gh_tabIn (tgt := 485) gd_Law_law_33 (by rw [c4772]; decide) (by rw [c4772]; decide) (by rw [c4772]; rfl) (by decide) ?_
      refine gh_aload_n gd_Law_law_485 1 rfl (by decide) ?_
      refine gh_aload_n gd_Law_law_486 0 rfl (by decide) ?_
      refine gh_iload_n gd_Law_law_487 3 rfl ?_
      refine gh_iconst gd_Law_law_488 (gh_r0 rfl) ?_
      obtain ⟨q4773, h⟩ := h
      refine gh_iadd gd_Law_law_489 q4773 ?_
      obtain ⟨q4774, h⟩ := h
      obtain ⟨q4775, h⟩ := h
      refine gh_sald gd_Law_law_490 q4774 q4775 ?_
      obtain ⟨q4776, h⟩ := h
      refine cv_House_follow (d := d + 35) gd_Law_law_491 gh_k1013 hF (Nat.le_of_ble_eq_true rfl) (gh_C.pe (e_House_follow (d + 34) (m 1 (v3 + 1)) hF q4776) ?_)
      refine gh_aload_n gd_Law_law_494 2 rfl (by decide) ?_
      refine gh_aload_n gd_Law_law_495 0 rfl (by decide) ?_
      refine gh_iload_n gd_Law_law_496 3 rfl ?_
      refine gh_iconst gd_Law_law_497 (gh_r0 rfl) ?_
      obtain ⟨q4777, h⟩ := h
      refine gh_iadd gd_Law_law_498 q4777 ?_
      obtain ⟨q4778, h⟩ := h
      obtain ⟨q4779, h⟩ := h
      refine gh_sald gd_Law_law_499 q4778 q4779 ?_
      obtain ⟨q4780, h⟩ := h
      refine cv_Model_follow (d := d + 35) gd_Law_law_500 gh_k1847 hF (Nat.le_of_ble_eq_true rfl) (gh_C.pe (e_Model_follow (d + 33) (m 1 (v3 + 1)) hF q4780) ?_)
      obtain ⟨hA, hB⟩ := h
      refine gh_jeq (tgt := 1027) gd_Law_law_503 (by decide) (fun c4781 => ?_) (fun c4781 => ?_)
      · have h := hA c4781
        exact hJ1027 m hF h
      · have h := hB c4781
        refine gh_iconst gd_Law_law_506 (gh_r0 rfl) ?_
        exact gh_ret8 rfl gd_Law_law_507 (by decide) ⟨hF, h⟩
    obtain ⟨hA, h⟩ := h
    by_cases c4782 : (gh_iand_f (m 1 v3) 31) = 12
    · have h := hA c4782
      refine gh_tabIn (tgt := 508) gd_Law_law_33 (by rw [c4782]; decide) (by rw [c4782]; decide) (by rw [c4782]; rfl) (by decide) ?_
      refine gh_aload_n gd_Law_law_508 1 rfl (by decide) ?_
      refine gh_aload_n gd_Law_law_509 0 rfl (by decide) ?_
      refine gh_iload_n gd_Law_law_510 3 rfl ?_
      refine gh_iconst gd_Law_law_511 (gh_r0 rfl) ?_
      obtain ⟨q4783, h⟩ := h
      refine gh_iadd gd_Law_law_512 q4783 ?_
      obtain ⟨q4784, h⟩ := h
      obtain ⟨q4785, h⟩ := h
      refine gh_sald gd_Law_law_513 q4784 q4785 ?_
      refine gh_aload_n gd_Law_law_514 0 rfl (by decide) ?_
      refine gh_iload_n gd_Law_law_515 3 rfl ?_
      refine gh_iconst gd_Law_law_516 (gh_r0 rfl) ?_
      obtain ⟨q4786, h⟩ := h
      refine gh_iadd gd_Law_law_517 q4786 ?_
      obtain ⟨q4787, h⟩ := h
      obtain ⟨q4788, h⟩ := h
      refine gh_sald gd_Law_law_518 q4787 q4788 ?_
      refine cv_House_table (d := d + 35) gd_Law_law_519 gh_k1017 hF (Nat.le_of_ble_eq_true rfl) (gh_C.pw (s_House_table (d + 33) (m 1 (v3 + 1)) (m 1 (v3 + 2)) hF h) (fun r4789 h => ?_))
      refine gh_aload_n gd_Law_law_522 2 rfl (by decide) ?_
      refine gh_aload_n gd_Law_law_523 0 rfl (by decide) ?_
      refine gh_iload_n gd_Law_law_524 3 rfl ?_
      refine gh_iconst gd_Law_law_525 (gh_r0 rfl) ?_
      obtain ⟨q4791, h⟩ := h
      refine gh_iadd gd_Law_law_526 q4791 ?_
      obtain ⟨q4792, h⟩ := h
      obtain ⟨q4793, h⟩ := h
      refine gh_sald gd_Law_law_527 q4792 q4793 ?_
      refine gh_aload_n gd_Law_law_528 0 rfl (by decide) ?_
      refine gh_iload_n gd_Law_law_529 3 rfl ?_
      refine gh_iconst gd_Law_law_530 (gh_r0 rfl) ?_
      obtain ⟨q4794, h⟩ := h
      refine gh_iadd gd_Law_law_531 q4794 ?_
      obtain ⟨q4795, h⟩ := h
      obtain ⟨q4796, h⟩ := h
      refine gh_sald gd_Law_law_532 q4795 q4796 ?_
      refine cv_Model_table (d := d + 35) gd_Law_law_533 gh_k1851 hF (Nat.le_of_ble_eq_true rfl) (gh_C.pw (s_Model_table (d + 33) (m 1 (v3 + 1)) (m 1 (v3 + 2)) hF h) (fun r4797 h => ?_))
      obtain ⟨hA, hB⟩ := h
      refine gh_jeq (tgt := 1027) gd_Law_law_536 (by decide) (fun c4799 => ?_) (fun c4799 => ?_)
      · have h := hA c4799
        exact hJ1027 m hF h
      · have h := hB c4799
        refine gh_iconst gd_Law_law_539 (gh_r0 rfl) ?_
        exact gh_ret8 rfl gd_Law_law_540 (by decide) ⟨hF, h⟩
    obtain ⟨hA, h⟩ := h
    by_cases c4800 : (gh_iand_f (m 1 v3) 31) = 13
    · have h := hA c4800
      refine gh_tabIn (tgt := 541) gd_Law_law_33 (by rw [c4800]; decide) (by rw [c4800]; decide) (by rw [c4800]; rfl) (by decide) ?_
      refine gh_aload_n gd_Law_law_541 1 rfl (by decide) ?_
      refine gh_aload_n gd_Law_law_542 0 rfl (by decide) ?_
      refine gh_iload_n gd_Law_law_543 3 rfl ?_
      refine gh_iconst gd_Law_law_544 (gh_r0 rfl) ?_
      obtain ⟨q4801, h⟩ := h
      refine gh_iadd gd_Law_law_545 q4801 ?_
      obtain ⟨q4802, h⟩ := h
      obtain ⟨q4803, h⟩ := h
      refine gh_sald gd_Law_law_546 q4802 q4803 ?_
      refine cv_House_put (d := d + 35) gd_Law_law_547 gh_k1025 hF (Nat.le_of_ble_eq_true rfl) (gh_C.mono (s_House_put (d + 32) (m 1 (v3 + 1)) hF h) (fun r4804 m4805 hq => ?_))
      obtain ⟨hF, h⟩ := hq
      refine gh_aload_n gd_Law_law_550 2 rfl (by decide) ?_
      refine gh_aload_n gd_Law_law_551 0 rfl (by decide) ?_
      refine gh_iload_n gd_Law_law_552 3 rfl ?_
      refine gh_iconst gd_Law_law_553 (gh_r0 rfl) ?_
      obtain ⟨q4806, h⟩ := h
      refine gh_iadd gd_Law_law_554 q4806 ?_
      obtain ⟨q4807, h⟩ := h
      obtain ⟨q4808, h⟩ := h
      refine gh_sald gd_Law_law_555 q4807 q4808 ?_
      refine cv_Model_put (d := d + 35) gd_Law_law_556 gh_k1883 hF (Nat.le_of_ble_eq_true rfl) (gh_C.mono (s_Model_put (d + 34) (m4805 1 (v3 + 1)) hF h) (fun r4809 m4810 hq => ?_))
      obtain ⟨hF, h⟩ := hq
      obtain ⟨hA, hB⟩ := h
      refine gh_jeq (tgt := 1027) gd_Law_law_559 (by decide) (fun c4811 => ?_) (fun c4811 => ?_)
      · have h := hA c4811
        exact hJ1027 m4810 hF h
      · have h := hB c4811
        refine gh_iconst gd_Law_law_562 (gh_r0 rfl) ?_
        exact gh_ret8 rfl gd_Law_law_563 (by decide) ⟨hF, h⟩
    obtain ⟨hA, h⟩ := h
    by_cases c4812 : (gh_iand_f (m 1 v3) 31) = 14
    · have h := hA c4812
      refine gh_tabIn (tgt := 564) gd_Law_law_33 (by rw [c4812]; decide) (by rw [c4812]; decide) (by rw [c4812]; rfl) (by decide) ?_
      refine gh_aload_n gd_Law_law_564 1 rfl (by decide) ?_
      refine gh_aload_n gd_Law_law_565 0 rfl (by decide) ?_
      refine gh_iload_n gd_Law_law_566 3 rfl ?_
      refine gh_iconst gd_Law_law_567 (gh_r0 rfl) ?_
      obtain ⟨q4813, h⟩ := h
      refine gh_iadd gd_Law_law_568 q4813 ?_
      obtain ⟨q4814, h⟩ := h
      obtain ⟨q4815, h⟩ := h
      refine gh_sald gd_Law_law_569 q4814 q4815 ?_
      refine cv_House_back (d := d + 35) gd_Law_law_570 gh_k1029 hF (Nat.le_of_ble_eq_true rfl) (gh_C.mono (s_House_back (d + 32) (m 1 (v3 + 1)) hF h) (fun r4816 m4817 hq => ?_))
      obtain ⟨hF, h⟩ := hq
      refine gh_aload_n gd_Law_law_573 2 rfl (by decide) ?_
      refine gh_aload_n gd_Law_law_574 0 rfl (by decide) ?_
      refine gh_iload_n gd_Law_law_575 3 rfl ?_
      refine gh_iconst gd_Law_law_576 (gh_r0 rfl) ?_
      obtain ⟨q4818, h⟩ := h
      refine gh_iadd gd_Law_law_577 q4818 ?_
      obtain ⟨q4819, h⟩ := h
      obtain ⟨q4820, h⟩ := h
      refine gh_sald gd_Law_law_578 q4819 q4820 ?_
      refine cv_Model_back (d := d + 35) gd_Law_law_579 gh_k1887 hF (Nat.le_of_ble_eq_true rfl) (gh_C.mono (s_Model_back (d + 34) (m4817 1 (v3 + 1)) hF h) (fun r4821 m4822 hq => ?_))
      obtain ⟨hF, h⟩ := hq
      obtain ⟨hA, hB⟩ := h
      refine gh_jeq (tgt := 1027) gd_Law_law_582 (by decide) (fun c4823 => ?_) (fun c4823 => ?_)
      · have h := hA c4823
        exact hJ1027 m4822 hF h
      · have h := hB c4823
        refine gh_iconst gd_Law_law_585 (gh_r0 rfl) ?_
        exact gh_ret8 rfl gd_Law_law_586 (by decide) ⟨hF, h⟩
    obtain ⟨hA, h⟩ := h
    by_cases c4824 : (gh_iand_f (m 1 v3) 31) = 15
    · have h := hA c4824
      refine gh_tabIn (tgt := 587) gd_Law_law_33 (by rw [c4824]; decide) (by rw [c4824]; decide) (by rw [c4824]; rfl) (by decide) ?_
      refine gh_aload_n gd_Law_law_587 1 rfl (by decide) ?_
      refine gh_aload_n gd_Law_law_588 0 rfl (by decide) ?_
      refine gh_iload_n gd_Law_law_589 3 rfl ?_
      refine gh_iconst gd_Law_law_590 (gh_r0 rfl) ?_
      obtain ⟨q4825, h⟩ := h
      refine gh_iadd gd_Law_law_591 q4825 ?_
      obtain ⟨q4826, h⟩ := h
      obtain ⟨q4827, h⟩ := h
      refine gh_sald gd_Law_law_592 q4826 q4827 ?_
      refine cv_House_made (d := d + 35) gd_Law_law_593 gh_k1033 hF (Nat.le_of_ble_eq_true rfl) (gh_C.mono (s_House_made (d + 32) (m 1 (v3 + 1)) hF h) (fun r4828 m4829 hq => ?_))
      obtain ⟨hF, h⟩ := hq
      refine gh_aload_n gd_Law_law_596 2 rfl (by decide) ?_
      refine gh_aload_n gd_Law_law_597 0 rfl (by decide) ?_
      refine gh_iload_n gd_Law_law_598 3 rfl ?_
      refine gh_iconst gd_Law_law_599 (gh_r0 rfl) ?_
      obtain ⟨q4830, h⟩ := h
      refine gh_iadd gd_Law_law_600 q4830 ?_
      obtain ⟨q4831, h⟩ := h
      obtain ⟨q4832, h⟩ := h
      refine gh_sald gd_Law_law_601 q4831 q4832 ?_
      refine cv_Model_made (d := d + 35) gd_Law_law_602 gh_k2037 hF (Nat.le_of_ble_eq_true rfl) (gh_C.mono (s_Model_made (d + 33) (m4829 1 (v3 + 1)) hF h) (fun r4833 m4834 hq => ?_))
      obtain ⟨hF, h⟩ := hq
      obtain ⟨hA, hB⟩ := h
      refine gh_jeq (tgt := 1027) gd_Law_law_605 (by decide) (fun c4835 => ?_) (fun c4835 => ?_)
      · have h := hA c4835
        exact hJ1027 m4834 hF h
      · have h := hB c4835
        refine gh_iconst gd_Law_law_608 (gh_r0 rfl) ?_
        exact gh_ret8 rfl gd_Law_law_609 (by decide) ⟨hF, h⟩
    obtain ⟨hA, h⟩ := h
    by_cases c4836 : (gh_iand_f (m 1 v3) 31) = 16
    · have h := hA c4836
      refine gh_tabIn (tgt := 610) gd_Law_law_33 (by rw [c4836]; decide) (by rw [c4836]; decide) (by rw [c4836]; rfl) (by decide) ?_
      refine gh_aload_n gd_Law_law_610 1 rfl (by decide) ?_
      refine gh_aload_n gd_Law_law_611 0 rfl (by decide) ?_
      refine gh_iload_n gd_Law_law_612 3 rfl ?_
      refine gh_iconst gd_Law_law_613 (gh_r0 rfl) ?_
      obtain ⟨q4837, h⟩ := h
      refine gh_iadd gd_Law_law_614 q4837 ?_
      obtain ⟨q4838, h⟩ := h
      obtain ⟨q4839, h⟩ := h
      refine gh_sald gd_Law_law_615 q4838 q4839 ?_
      obtain ⟨q4840, h⟩ := h
      refine cv_House_letter (d := d + 35) gd_Law_law_616 gh_k1065 hF (Nat.le_of_ble_eq_true rfl) (gh_C.pe (e_House_letter (d + 35) (m 1 (v3 + 1)) hF q4840) ?_)
      refine gh_aload_n gd_Law_law_619 2 rfl (by decide) ?_
      refine gh_aload_n gd_Law_law_620 0 rfl (by decide) ?_
      refine gh_iload_n gd_Law_law_621 3 rfl ?_
      refine gh_iconst gd_Law_law_622 (gh_r0 rfl) ?_
      obtain ⟨q4841, h⟩ := h
      refine gh_iadd gd_Law_law_623 q4841 ?_
      obtain ⟨q4842, h⟩ := h
      obtain ⟨q4843, h⟩ := h
      refine gh_sald gd_Law_law_624 q4842 q4843 ?_
      obtain ⟨q4844, h⟩ := h
      refine cv_Model_letter (d := d + 35) gd_Law_law_625 gh_k1891 hF (Nat.le_of_ble_eq_true rfl) (gh_C.pe (e_Model_letter (d + 34) (m 1 (v3 + 1)) hF q4844) ?_)
      obtain ⟨hA, hB⟩ := h
      refine gh_jeq (tgt := 1027) gd_Law_law_628 (by decide) (fun c4845 => ?_) (fun c4845 => ?_)
      · have h := hA c4845
        exact hJ1027 m hF h
      · have h := hB c4845
        refine gh_iconst gd_Law_law_631 (gh_r0 rfl) ?_
        exact gh_ret8 rfl gd_Law_law_632 (by decide) ⟨hF, h⟩
    obtain ⟨hA, h⟩ := h
    by_cases c4846 : (gh_iand_f (m 1 v3) 31) = 17
    · have h := hA c4846
      refine gh_tabIn (tgt := 633) gd_Law_law_33 (by rw [c4846]; decide) (by rw [c4846]; decide) (by rw [c4846]; rfl) (by decide) ?_
      refine gh_aload_n gd_Law_law_633 1 rfl (by decide) ?_
      refine gh_aload_n gd_Law_law_634 0 rfl (by decide) ?_
      refine gh_iload_n gd_Law_law_635 3 rfl ?_
      refine gh_iconst gd_Law_law_636 (gh_r0 rfl) ?_
      obtain ⟨q4847, h⟩ := h
      refine gh_iadd gd_Law_law_637 q4847 ?_
      obtain ⟨q4848, h⟩ := h
      obtain ⟨q4849, h⟩ := h
      refine gh_sald gd_Law_law_638 q4848 q4849 ?_
      refine cv_House_accepts (d := d + 35) gd_Law_law_639 gh_k1069 hF (Nat.le_of_ble_eq_true rfl) (gh_C.mono (s_House_accepts (d + 29) (m 1 (v3 + 1)) hF h) (fun r4850 m4851 hq => ?_))
      obtain ⟨hF, h⟩ := hq
      refine gh_aload_n gd_Law_law_642 2 rfl (by decide) ?_
      refine gh_aload_n gd_Law_law_643 0 rfl (by decide) ?_
      refine gh_iload_n gd_Law_law_644 3 rfl ?_
      refine gh_iconst gd_Law_law_645 (gh_r0 rfl) ?_
      obtain ⟨q4852, h⟩ := h
      refine gh_iadd gd_Law_law_646 q4852 ?_
      obtain ⟨q4853, h⟩ := h
      obtain ⟨q4854, h⟩ := h
      refine gh_sald gd_Law_law_647 q4853 q4854 ?_
      refine cv_Model_accepts (d := d + 35) gd_Law_law_648 gh_k1895 hF (Nat.le_of_ble_eq_true rfl) (gh_C.mono (s_Model_accepts (d + 32) (m4851 1 (v3 + 1)) hF h) (fun r4855 m4856 hq => ?_))
      obtain ⟨hF, h⟩ := hq
      obtain ⟨hA, hB⟩ := h
      refine gh_jeq (tgt := 1027) gd_Law_law_651 (by decide) (fun c4857 => ?_) (fun c4857 => ?_)
      · have h := hA c4857
        exact hJ1027 m4856 hF h
      · have h := hB c4857
        refine gh_iconst gd_Law_law_654 (gh_r0 rfl) ?_
        exact gh_ret8 rfl gd_Law_law_655 (by decide) ⟨hF, h⟩
    obtain ⟨hA, h⟩ := h
    by_cases c4858 : (gh_iand_f (m 1 v3) 31) = 18
    · have h := hA c4858
      refine gh_tabIn (tgt := 656) gd_Law_law_33 (by rw [c4858]; decide) (by rw [c4858]; decide) (by rw [c4858]; rfl) (by decide) ?_
      refine gh_aload_n gd_Law_law_656 1 rfl (by decide) ?_
      refine gh_aload_n gd_Law_law_657 0 rfl (by decide) ?_
      refine gh_iload_n gd_Law_law_658 3 rfl ?_
      refine gh_iconst gd_Law_law_659 (gh_r0 rfl) ?_
      obtain ⟨q4859, h⟩ := h
      refine gh_iadd gd_Law_law_660 q4859 ?_
      obtain ⟨q4860, h⟩ := h
      obtain ⟨q4861, h⟩ := h
      refine gh_sald gd_Law_law_661 q4860 q4861 ?_
      refine cv_House_next (d := d + 35) gd_Law_law_662 gh_k1121 hF (Nat.le_of_ble_eq_true rfl) (gh_C.mono (s_House_next (d + 29) (m 1 (v3 + 1)) hF h) (fun r4862 m4863 hq => ?_))
      obtain ⟨hF, h⟩ := hq
      refine gh_aload_n gd_Law_law_665 2 rfl (by decide) ?_
      refine gh_aload_n gd_Law_law_666 0 rfl (by decide) ?_
      refine gh_iload_n gd_Law_law_667 3 rfl ?_
      refine gh_iconst gd_Law_law_668 (gh_r0 rfl) ?_
      obtain ⟨q4864, h⟩ := h
      refine gh_iadd gd_Law_law_669 q4864 ?_
      obtain ⟨q4865, h⟩ := h
      obtain ⟨q4866, h⟩ := h
      refine gh_sald gd_Law_law_670 q4865 q4866 ?_
      refine cv_Model_next2 (d := d + 35) gd_Law_law_671 gh_k1922 hF (Nat.le_of_ble_eq_true rfl) (gh_C.mono (s_Model_next2 (d + 32) (m4863 1 (v3 + 1)) hF h) (fun r4867 m4868 hq => ?_))
      obtain ⟨hF, h⟩ := hq
      obtain ⟨hA, hB⟩ := h
      refine gh_jeq (tgt := 1027) gd_Law_law_674 (by decide) (fun c4869 => ?_) (fun c4869 => ?_)
      · have h := hA c4869
        exact hJ1027 m4868 hF h
      · have h := hB c4869
        refine gh_iconst gd_Law_law_677 (gh_r0 rfl) ?_
        exact gh_ret8 rfl gd_Law_law_678 (by decide) ⟨hF, h⟩
    obtain ⟨hA, h⟩ := h
    by_cases c4870 : (gh_iand_f (m 1 v3) 31) = 19
    · have h := hA c4870
      refine gh_tabIn (tgt := 679) gd_Law_law_33 (by rw [c4870]; decide) (by rw [c4870]; decide) (by rw [c4870]; rfl) (by decide) ?_
      refine gh_aload_n gd_Law_law_679 1 rfl (by decide) ?_
      refine gh_aload_n gd_Law_law_680 0 rfl (by decide) ?_
      refine gh_iload_n gd_Law_law_681 3 rfl ?_
      refine gh_iconst gd_Law_law_682 (gh_r0 rfl) ?_
      obtain ⟨q4871, h⟩ := h
      refine gh_iadd gd_Law_law_683 q4871 ?_
      obtain ⟨q4872, h⟩ := h
      obtain ⟨q4873, h⟩ := h
      refine gh_sald gd_Law_law_684 q4872 q4873 ?_
      refine cv_House_items (d := d + 35) gd_Law_law_685 gh_k1125 hF (Nat.le_of_ble_eq_true rfl) (gh_C.mono (s_House_items (d + 29) (m 1 (v3 + 1)) hF h) (fun r4874 m4875 hq => ?_))
      obtain ⟨hF, h⟩ := hq
      refine gh_aload_n gd_Law_law_688 2 rfl (by decide) ?_
      refine gh_aload_n gd_Law_law_689 0 rfl (by decide) ?_
      refine gh_iload_n gd_Law_law_690 3 rfl ?_
      refine gh_iconst gd_Law_law_691 (gh_r0 rfl) ?_
      obtain ⟨q4876, h⟩ := h
      refine gh_iadd gd_Law_law_692 q4876 ?_
      obtain ⟨q4877, h⟩ := h
      obtain ⟨q4878, h⟩ := h
      refine gh_sald gd_Law_law_693 q4877 q4878 ?_
      refine cv_Model_items (d := d + 35) gd_Law_law_694 gh_k1926 hF (Nat.le_of_ble_eq_true rfl) (gh_C.mono (s_Model_items (d + 32) (m4875 1 (v3 + 1)) hF h) (fun r4879 m4880 hq => ?_))
      obtain ⟨hF, h⟩ := hq
      obtain ⟨hA, hB⟩ := h
      refine gh_jeq (tgt := 1027) gd_Law_law_697 (by decide) (fun c4881 => ?_) (fun c4881 => ?_)
      · have h := hA c4881
        exact hJ1027 m4880 hF h
      · have h := hB c4881
        refine gh_iconst gd_Law_law_700 (gh_r0 rfl) ?_
        exact gh_ret8 rfl gd_Law_law_701 (by decide) ⟨hF, h⟩
    obtain ⟨hA, h⟩ := h
    by_cases c4882 : (gh_iand_f (m 1 v3) 31) = 20
    · have h := hA c4882
      refine gh_tabIn (tgt := 702) gd_Law_law_33 (by rw [c4882]; decide) (by rw [c4882]; decide) (by rw [c4882]; rfl) (by decide) ?_
      refine gh_aload_n gd_Law_law_702 1 rfl (by decide) ?_
      refine gh_aload_n gd_Law_law_703 0 rfl (by decide) ?_
      refine gh_iload_n gd_Law_law_704 3 rfl ?_
      refine gh_iconst gd_Law_law_705 (gh_r0 rfl) ?_
      obtain ⟨q4883, h⟩ := h
      refine gh_iadd gd_Law_law_706 q4883 ?_
      obtain ⟨q4884, h⟩ := h
      obtain ⟨q4885, h⟩ := h
      refine gh_sald gd_Law_law_707 q4884 q4885 ?_
      refine gh_aload_n gd_Law_law_708 0 rfl (by decide) ?_
      refine gh_iload_n gd_Law_law_709 3 rfl ?_
      refine gh_iconst gd_Law_law_710 (gh_r0 rfl) ?_
      obtain ⟨q4886, h⟩ := h
      refine gh_iadd gd_Law_law_711 q4886 ?_
      obtain ⟨q4887, h⟩ := h
      obtain ⟨q4888, h⟩ := h
      refine gh_sald gd_Law_law_712 q4887 q4888 ?_
      refine gh_aload_n gd_Law_law_713 0 rfl (by decide) ?_
      refine gh_iload_n gd_Law_law_714 3 rfl ?_
      refine gh_iconst gd_Law_law_715 (gh_r0 rfl) ?_
      obtain ⟨q4889, h⟩ := h
      refine gh_iadd gd_Law_law_716 q4889 ?_
      obtain ⟨q4890, h⟩ := h
      obtain ⟨q4891, h⟩ := h
      refine gh_sald gd_Law_law_717 q4890 q4891 ?_
      refine gh_aload_n gd_Law_law_718 0 rfl (by decide) ?_
      refine gh_iload_n gd_Law_law_719 3 rfl ?_
      refine gh_iconst gd_Law_law_720 (gh_r0 rfl) ?_
      obtain ⟨q4892, h⟩ := h
      refine gh_iadd gd_Law_law_721 q4892 ?_
      obtain ⟨q4893, h⟩ := h
      obtain ⟨q4894, h⟩ := h
      refine gh_sald gd_Law_law_722 q4893 q4894 ?_
      refine cv_House_isItem (d := d + 35) gd_Law_law_723 gh_k1129 hF (Nat.le_of_ble_eq_true rfl) (gh_C.mono (s_House_isItem (d + 29) (m 1 (v3 + 1)) (m 1 (v3 + 2)) (m 1 (v3 + 3)) (m 1 (v3 + 4)) hF h) (fun r4895 m4896 hq => ?_))
      obtain ⟨hF, h⟩ := hq
      refine gh_aload_n gd_Law_law_726 2 rfl (by decide) ?_
      refine gh_aload_n gd_Law_law_727 0 rfl (by decide) ?_
      refine gh_iload_n gd_Law_law_728 3 rfl ?_
      refine gh_iconst gd_Law_law_729 (gh_r0 rfl) ?_
      obtain ⟨q4897, h⟩ := h
      refine gh_iadd gd_Law_law_730 q4897 ?_
      obtain ⟨q4898, h⟩ := h
      obtain ⟨q4899, h⟩ := h
      refine gh_sald gd_Law_law_731 q4898 q4899 ?_
      refine gh_aload_n gd_Law_law_732 0 rfl (by decide) ?_
      refine gh_iload_n gd_Law_law_733 3 rfl ?_
      refine gh_iconst gd_Law_law_734 (gh_r0 rfl) ?_
      obtain ⟨q4900, h⟩ := h
      refine gh_iadd gd_Law_law_735 q4900 ?_
      obtain ⟨q4901, h⟩ := h
      obtain ⟨q4902, h⟩ := h
      refine gh_sald gd_Law_law_736 q4901 q4902 ?_
      refine gh_aload_n gd_Law_law_737 0 rfl (by decide) ?_
      refine gh_iload_n gd_Law_law_738 3 rfl ?_
      refine gh_iconst gd_Law_law_739 (gh_r0 rfl) ?_
      obtain ⟨q4903, h⟩ := h
      refine gh_iadd gd_Law_law_740 q4903 ?_
      obtain ⟨q4904, h⟩ := h
      obtain ⟨q4905, h⟩ := h
      refine gh_sald gd_Law_law_741 q4904 q4905 ?_
      refine gh_aload_n gd_Law_law_742 0 rfl (by decide) ?_
      refine gh_iload_n gd_Law_law_743 3 rfl ?_
      refine gh_iconst gd_Law_law_744 (gh_r0 rfl) ?_
      obtain ⟨q4906, h⟩ := h
      refine gh_iadd gd_Law_law_745 q4906 ?_
      obtain ⟨q4907, h⟩ := h
      obtain ⟨q4908, h⟩ := h
      refine gh_sald gd_Law_law_746 q4907 q4908 ?_
      refine cv_Model_isItem (d := d + 35) gd_Law_law_747 gh_k1934 hF (Nat.le_of_ble_eq_true rfl) (gh_C.mono (s_Model_isItem (d + 32) (m4896 1 (v3 + 1)) (m4896 1 (v3 + 2)) (m4896 1 (v3 + 3)) (m4896 1 (v3 + 4)) hF h) (fun r4909 m4910 hq => ?_))
      obtain ⟨hF, h⟩ := hq
      obtain ⟨hA, hB⟩ := h
      refine gh_jeq (tgt := 1027) gd_Law_law_750 (by decide) (fun c4911 => ?_) (fun c4911 => ?_)
      · have h := hA c4911
        exact hJ1027 m4910 hF h
      · have h := hB c4911
        refine gh_iconst gd_Law_law_753 (gh_r0 rfl) ?_
        exact gh_ret8 rfl gd_Law_law_754 (by decide) ⟨hF, h⟩
    obtain ⟨hA, h⟩ := h
    by_cases c4912 : (gh_iand_f (m 1 v3) 31) = 21
    · have h := hA c4912
      refine gh_tabIn (tgt := 755) gd_Law_law_33 (by rw [c4912]; decide) (by rw [c4912]; decide) (by rw [c4912]; rfl) (by decide) ?_
      refine gh_aload_n gd_Law_law_755 1 rfl (by decide) ?_
      refine gh_aload_n gd_Law_law_756 0 rfl (by decide) ?_
      refine gh_iload_n gd_Law_law_757 3 rfl ?_
      refine gh_iconst gd_Law_law_758 (gh_r0 rfl) ?_
      obtain ⟨q4913, h⟩ := h
      refine gh_iadd gd_Law_law_759 q4913 ?_
      obtain ⟨q4914, h⟩ := h
      obtain ⟨q4915, h⟩ := h
      refine gh_sald gd_Law_law_760 q4914 q4915 ?_
      refine gh_aload_n gd_Law_law_761 0 rfl (by decide) ?_
      refine gh_iload_n gd_Law_law_762 3 rfl ?_
      refine gh_iconst gd_Law_law_763 (gh_r0 rfl) ?_
      obtain ⟨q4916, h⟩ := h
      refine gh_iadd gd_Law_law_764 q4916 ?_
      obtain ⟨q4917, h⟩ := h
      obtain ⟨q4918, h⟩ := h
      refine gh_sald gd_Law_law_765 q4917 q4918 ?_
      refine gh_aload_n gd_Law_law_766 0 rfl (by decide) ?_
      refine gh_iload_n gd_Law_law_767 3 rfl ?_
      refine gh_iconst gd_Law_law_768 (gh_r0 rfl) ?_
      obtain ⟨q4919, h⟩ := h
      refine gh_iadd gd_Law_law_769 q4919 ?_
      obtain ⟨q4920, h⟩ := h
      obtain ⟨q4921, h⟩ := h
      refine gh_sald gd_Law_law_770 q4920 q4921 ?_
      refine cv_House_makes (d := d + 35) gd_Law_law_771 gh_k1137 hF (Nat.le_of_ble_eq_true rfl) (gh_C.mono (s_House_makes (d + 29) (m 1 (v3 + 1)) (m 1 (v3 + 2)) (m 1 (v3 + 3)) hF h) (fun r4922 m4923 hq => ?_))
      obtain ⟨hF, h⟩ := hq
      refine gh_aload_n gd_Law_law_774 2 rfl (by decide) ?_
      refine gh_aload_n gd_Law_law_775 0 rfl (by decide) ?_
      refine gh_iload_n gd_Law_law_776 3 rfl ?_
      refine gh_iconst gd_Law_law_777 (gh_r0 rfl) ?_
      obtain ⟨q4924, h⟩ := h
      refine gh_iadd gd_Law_law_778 q4924 ?_
      obtain ⟨q4925, h⟩ := h
      obtain ⟨q4926, h⟩ := h
      refine gh_sald gd_Law_law_779 q4925 q4926 ?_
      refine gh_aload_n gd_Law_law_780 0 rfl (by decide) ?_
      refine gh_iload_n gd_Law_law_781 3 rfl ?_
      refine gh_iconst gd_Law_law_782 (gh_r0 rfl) ?_
      obtain ⟨q4927, h⟩ := h
      refine gh_iadd gd_Law_law_783 q4927 ?_
      obtain ⟨q4928, h⟩ := h
      obtain ⟨q4929, h⟩ := h
      refine gh_sald gd_Law_law_784 q4928 q4929 ?_
      refine gh_aload_n gd_Law_law_785 0 rfl (by decide) ?_
      refine gh_iload_n gd_Law_law_786 3 rfl ?_
      refine gh_iconst gd_Law_law_787 (gh_r0 rfl) ?_
      obtain ⟨q4930, h⟩ := h
      refine gh_iadd gd_Law_law_788 q4930 ?_
      obtain ⟨q4931, h⟩ := h
      obtain ⟨q4932, h⟩ := h
      refine gh_sald gd_Law_law_789 q4931 q4932 ?_
      refine cv_Model_makes (d := d + 35) gd_Law_law_790 gh_k1938 hF (Nat.le_of_ble_eq_true rfl) (gh_C.mono (s_Model_makes (d + 32) (m4923 1 (v3 + 1)) (m4923 1 (v3 + 2)) (m4923 1 (v3 + 3)) hF h) (fun r4933 m4934 hq => ?_))
      obtain ⟨hF, h⟩ := hq
      obtain ⟨hA, hB⟩ := h
      refine gh_jeq (tgt := 1027) gd_Law_law_793 (by decide) (fun c4935 => ?_) (fun c4935 => ?_)
      · have h := hA c4935
        exact hJ1027 m4934 hF h
      · have h := hB c4935
        refine gh_iconst gd_Law_law_796 (gh_r0 rfl) ?_
        exact gh_ret8 rfl gd_Law_law_797 (by decide) ⟨hF, h⟩
    obtain ⟨hA, h⟩ := h
    by_cases c4936 : (gh_iand_f (m 1 v3) 31) = 22
    · have h := hA c4936
      refine gh_tabIn (tgt := 798) gd_Law_law_33 (by rw [c4936]; decide) (by rw [c4936]; decide) (by rw [c4936]; rfl) (by decide) ?_
      refine gh_aload_n gd_Law_law_798 1 rfl (by decide) ?_
      refine gh_aload_n gd_Law_law_799 0 rfl (by decide) ?_
      refine gh_iload_n gd_Law_law_800 3 rfl ?_
      refine gh_iconst gd_Law_law_801 (gh_r0 rfl) ?_
      obtain ⟨q4937, h⟩ := h
      refine gh_iadd gd_Law_law_802 q4937 ?_
      obtain ⟨q4938, h⟩ := h
      obtain ⟨q4939, h⟩ := h
      refine gh_sald gd_Law_law_803 q4938 q4939 ?_
      refine cv_House_end (d := d + 35) gd_Law_law_804 gh_k1141 hF (Nat.le_of_ble_eq_true rfl) (gh_C.mono (s_House_end (d + 29) (m 1 (v3 + 1)) hF h) (fun r4940 m4941 hq => ?_))
      obtain ⟨hF, h⟩ := hq
      refine gh_aload_n gd_Law_law_807 2 rfl (by decide) ?_
      refine gh_aload_n gd_Law_law_808 0 rfl (by decide) ?_
      refine gh_iload_n gd_Law_law_809 3 rfl ?_
      refine gh_iconst gd_Law_law_810 (gh_r0 rfl) ?_
      obtain ⟨q4942, h⟩ := h
      refine gh_iadd gd_Law_law_811 q4942 ?_
      obtain ⟨q4943, h⟩ := h
      obtain ⟨q4944, h⟩ := h
      refine gh_sald gd_Law_law_812 q4943 q4944 ?_
      refine cv_Model_end (d := d + 35) gd_Law_law_813 gh_k1942 hF (Nat.le_of_ble_eq_true rfl) (gh_C.mono (s_Model_end (d + 32) (m4941 1 (v3 + 1)) hF h) (fun r4945 m4946 hq => ?_))
      obtain ⟨hF, h⟩ := hq
      obtain ⟨hA, hB⟩ := h
      refine gh_jeq (tgt := 1027) gd_Law_law_816 (by decide) (fun c4947 => ?_) (fun c4947 => ?_)
      · have h := hA c4947
        exact hJ1027 m4946 hF h
      · have h := hB c4947
        refine gh_iconst gd_Law_law_819 (gh_r0 rfl) ?_
        exact gh_ret8 rfl gd_Law_law_820 (by decide) ⟨hF, h⟩
    obtain ⟨hA, h⟩ := h
    by_cases c4948 : (gh_iand_f (m 1 v3) 31) = 23
    · have h := hA c4948
      refine gh_tabIn (tgt := 821) gd_Law_law_33 (by rw [c4948]; decide) (by rw [c4948]; decide) (by rw [c4948]; rfl) (by decide) ?_
      refine gh_aload_n gd_Law_law_821 1 rfl (by decide) ?_
      refine cv_House_repair (d := d + 35) gd_Law_law_822 gh_k1163 hF (Nat.le_of_ble_eq_true rfl) (gh_C.mono (s_House_repair (d + 30) hF h) (fun r4949 m4950 hq => ?_))
      obtain ⟨hF, h⟩ := hq
      refine gh_aload_n gd_Law_law_825 2 rfl (by decide) ?_
      refine cv_Model_repair (d := d + 35) gd_Law_law_826 gh_k1953 hF (Nat.le_of_ble_eq_true rfl) (gh_C.mono (s_Model_repair (d + 33) hF h) (fun r4951 m4952 hq => ?_))
      obtain ⟨hF, h⟩ := hq
      obtain ⟨hA, hB⟩ := h
      refine gh_jeq (tgt := 1027) gd_Law_law_829 (by decide) (fun c4953 => ?_) (fun c4953 => ?_)
      · have h := hA c4953
        exact hJ1027 m4952 hF h
      · have h := hB c4953
        refine gh_iconst gd_Law_law_832 (gh_r0 rfl) ?_
        exact gh_ret8 rfl gd_Law_law_833 (by decide) ⟨hF, h⟩
    obtain ⟨hA, h⟩ := h
    by_cases c4954 : (gh_iand_f (m 1 v3) 31) = 24
    · have h := hA c4954
      refine gh_tabIn (tgt := 834) gd_Law_law_33 (by rw [c4954]; decide) (by rw [c4954]; decide) (by rw [c4954]; rfl) (by decide) ?_
      refine gh_aload_n gd_Law_law_834 1 rfl (by decide) ?_
      refine gh_aload_n gd_Law_law_835 0 rfl (by decide) ?_
      refine gh_iload_n gd_Law_law_836 3 rfl ?_
      refine gh_iconst gd_Law_law_837 (gh_r0 rfl) ?_
      obtain ⟨q4955, h⟩ := h
      refine gh_iadd gd_Law_law_838 q4955 ?_
      obtain ⟨q4956, h⟩ := h
      obtain ⟨q4957, h⟩ := h
      refine gh_sald gd_Law_law_839 q4956 q4957 ?_
      refine gh_aload_n gd_Law_law_840 0 rfl (by decide) ?_
      refine gh_iload_n gd_Law_law_841 3 rfl ?_
      refine gh_iconst gd_Law_law_842 (gh_r0 rfl) ?_
      obtain ⟨q4958, h⟩ := h
      refine gh_iadd gd_Law_law_843 q4958 ?_
      obtain ⟨q4959, h⟩ := h
      obtain ⟨q4960, h⟩ := h
      refine gh_sald gd_Law_law_844 q4959 q4960 ?_
      refine gh_aload_n gd_Law_law_845 0 rfl (by decide) ?_
      refine gh_iload_n gd_Law_law_846 3 rfl ?_
      refine gh_iconst gd_Law_law_847 (gh_r0 rfl) ?_
      obtain ⟨q4961, h⟩ := h
      refine gh_iadd gd_Law_law_848 q4961 ?_
      obtain ⟨q4962, h⟩ := h
      obtain ⟨q4963, h⟩ := h
      refine gh_sald gd_Law_law_849 q4962 q4963 ?_
      refine cv_House_trees (d := d + 35) gd_Law_law_850 gh_k1190 hF (Nat.le_of_ble_eq_true rfl) (gh_C.mono (s_House_trees (d + 2) (m 1 (v3 + 1)) (m 1 (v3 + 2)) (m 1 (v3 + 3)) hF h) (fun r4964 m4965 hq => ?_))
      obtain ⟨hF, h⟩ := hq
      refine gh_aload_n gd_Law_law_853 2 rfl (by decide) ?_
      refine gh_aload_n gd_Law_law_854 0 rfl (by decide) ?_
      refine gh_iload_n gd_Law_law_855 3 rfl ?_
      refine gh_iconst gd_Law_law_856 (gh_r0 rfl) ?_
      obtain ⟨q4966, h⟩ := h
      refine gh_iadd gd_Law_law_857 q4966 ?_
      obtain ⟨q4967, h⟩ := h
      obtain ⟨q4968, h⟩ := h
      refine gh_sald gd_Law_law_858 q4967 q4968 ?_
      refine gh_aload_n gd_Law_law_859 0 rfl (by decide) ?_
      refine gh_iload_n gd_Law_law_860 3 rfl ?_
      refine gh_iconst gd_Law_law_861 (gh_r0 rfl) ?_
      obtain ⟨q4969, h⟩ := h
      refine gh_iadd gd_Law_law_862 q4969 ?_
      obtain ⟨q4970, h⟩ := h
      obtain ⟨q4971, h⟩ := h
      refine gh_sald gd_Law_law_863 q4970 q4971 ?_
      refine gh_aload_n gd_Law_law_864 0 rfl (by decide) ?_
      refine gh_iload_n gd_Law_law_865 3 rfl ?_
      refine gh_iconst gd_Law_law_866 (gh_r0 rfl) ?_
      obtain ⟨q4972, h⟩ := h
      refine gh_iadd gd_Law_law_867 q4972 ?_
      obtain ⟨q4973, h⟩ := h
      obtain ⟨q4974, h⟩ := h
      refine gh_sald gd_Law_law_868 q4973 q4974 ?_
      refine cv_Model_trees (d := d + 35) gd_Law_law_869 gh_k1965 hF (Nat.le_of_ble_eq_true rfl) (gh_C.mono (s_Model_trees (d + 30) (m4965 1 (v3 + 1)) (m4965 1 (v3 + 2)) (m4965 1 (v3 + 3)) hF h) (fun r4975 m4976 hq => ?_))
      obtain ⟨hF, h⟩ := hq
      refine gh_lcmp gd_Law_law_872 ?_
      obtain ⟨hA, hB⟩ := h
      refine gh_ceq (tgt := 1027) gd_Law_law_873 (by decide) (fun c4977 => ?_) (fun c4977 => ?_)
      · have h := hA c4977
        exact hJ1027 m4976 hF h
      · have h := hB c4977
        refine gh_iconst gd_Law_law_876 (gh_r0 rfl) ?_
        exact gh_ret8 rfl gd_Law_law_877 (by decide) ⟨hF, h⟩
    obtain ⟨hA, h⟩ := h
    by_cases c4978 : (gh_iand_f (m 1 v3) 31) = 25
    · have h := hA c4978
      refine gh_tabIn (tgt := 878) gd_Law_law_33 (by rw [c4978]; decide) (by rw [c4978]; decide) (by rw [c4978]; rfl) (by decide) ?_
      refine gh_aload_n gd_Law_law_878 1 rfl (by decide) ?_
      refine gh_aload_n gd_Law_law_879 0 rfl (by decide) ?_
      refine gh_iload_n gd_Law_law_880 3 rfl ?_
      refine gh_iconst gd_Law_law_881 (gh_r0 rfl) ?_
      obtain ⟨q4979, h⟩ := h
      refine gh_iadd gd_Law_law_882 q4979 ?_
      obtain ⟨q4980, h⟩ := h
      obtain ⟨q4981, h⟩ := h
      refine gh_sald gd_Law_law_883 q4980 q4981 ?_
      refine gh_i2l gd_Law_law_884 ?_
      refine gh_bipush gd_Law_law_885 (by decide) (gh_r0 rfl) ?_
      refine gh_lshl gd_Law_law_887 ?_
      refine gh_aload_n gd_Law_law_888 0 rfl (by decide) ?_
      refine gh_iload_n gd_Law_law_889 3 rfl ?_
      refine gh_iconst gd_Law_law_890 (gh_r0 rfl) ?_
      obtain ⟨q4982, h⟩ := h
      refine gh_iadd gd_Law_law_891 q4982 ?_
      obtain ⟨q4983, h⟩ := h
      obtain ⟨q4984, h⟩ := h
      refine gh_sald gd_Law_law_892 q4983 q4984 ?_
      refine gh_i2l gd_Law_law_893 ?_
      refine gh_ldc2 (n := 4294967295) gd_Law_law_894 gh_k2088 (by decide) (gh_r1 rfl) ?_
      refine gh_land gd_Law_law_897 ?_
      refine gh_lor gd_Law_law_898 ?_
      refine cv_House_pick (d := d + 35) gd_Law_law_899 gh_k1250 hF (Nat.le_of_ble_eq_true rfl) (gh_C.mono (s_House_pick d (gh_lor_f (gh_lshl_f (m 1 (v3 + 1)) 32) (gh_land_f (m 1 (v3 + 2)) 4294967295)) hF h) (fun r4985 m4986 hq => ?_))
      obtain ⟨hF, h⟩ := hq
      refine gh_aload_n gd_Law_law_902 2 rfl (by decide) ?_
      refine gh_aload_n gd_Law_law_903 0 rfl (by decide) ?_
      refine gh_iload_n gd_Law_law_904 3 rfl ?_
      refine gh_iconst gd_Law_law_905 (gh_r0 rfl) ?_
      obtain ⟨q4987, h⟩ := h
      refine gh_iadd gd_Law_law_906 q4987 ?_
      obtain ⟨q4988, h⟩ := h
      obtain ⟨q4989, h⟩ := h
      refine gh_sald gd_Law_law_907 q4988 q4989 ?_
      refine gh_i2l gd_Law_law_908 ?_
      refine gh_bipush gd_Law_law_909 (by decide) (gh_r0 rfl) ?_
      refine gh_lshl gd_Law_law_911 ?_
      refine gh_aload_n gd_Law_law_912 0 rfl (by decide) ?_
      refine gh_iload_n gd_Law_law_913 3 rfl ?_
      refine gh_iconst gd_Law_law_914 (gh_r0 rfl) ?_
      obtain ⟨q4990, h⟩ := h
      refine gh_iadd gd_Law_law_915 q4990 ?_
      obtain ⟨q4991, h⟩ := h
      obtain ⟨q4992, h⟩ := h
      refine gh_sald gd_Law_law_916 q4991 q4992 ?_
      refine gh_i2l gd_Law_law_917 ?_
      refine gh_ldc2 (n := 4294967295) gd_Law_law_918 gh_k2088 (by decide) (gh_r1 rfl) ?_
      refine gh_land gd_Law_law_921 ?_
      refine gh_lor gd_Law_law_922 ?_
      refine cv_Model_pick (d := d + 35) gd_Law_law_923 gh_k2009 hF (Nat.le_of_ble_eq_true rfl) (gh_C.mono (s_Model_pick (d + 30) (gh_lor_f (gh_lshl_f (m4986 1 (v3 + 1)) 32) (gh_land_f (m4986 1 (v3 + 2)) 4294967295)) hF h) (fun r4993 m4994 hq => ?_))
      obtain ⟨hF, h⟩ := hq
      obtain ⟨hA, hB⟩ := h
      refine gh_jeq (tgt := 1027) gd_Law_law_926 (by decide) (fun c4995 => ?_) (fun c4995 => ?_)
      · have h := hA c4995
        exact hJ1027 m4994 hF h
      · have h := hB c4995
        refine gh_iconst gd_Law_law_929 (gh_r0 rfl) ?_
        exact gh_ret8 rfl gd_Law_law_930 (by decide) ⟨hF, h⟩
    obtain ⟨hA, h⟩ := h
    by_cases c4996 : (gh_iand_f (m 1 v3) 31) = 26
    · have h := hA c4996
      refine gh_tabIn (tgt := 931) gd_Law_law_33 (by rw [c4996]; decide) (by rw [c4996]; decide) (by rw [c4996]; rfl) (by decide) ?_
      refine gh_aload_n gd_Law_law_931 1 rfl (by decide) ?_
      refine gh_aload_n gd_Law_law_932 0 rfl (by decide) ?_
      refine gh_iload_n gd_Law_law_933 3 rfl ?_
      refine gh_iconst gd_Law_law_934 (gh_r0 rfl) ?_
      obtain ⟨q4997, h⟩ := h
      refine gh_iadd gd_Law_law_935 q4997 ?_
      obtain ⟨q4998, h⟩ := h
      obtain ⟨q4999, h⟩ := h
      refine gh_sald gd_Law_law_936 q4998 q4999 ?_
      obtain ⟨q5000, h⟩ := h
      refine cv_House_step (d := d + 35) gd_Law_law_937 gh_k1294 hF (Nat.le_of_ble_eq_true rfl) (gh_C.pe (e_House_step (d + 35) (m 1 (v3 + 1)) hF q5000) ?_)
      refine gh_aload_n gd_Law_law_940 2 rfl (by decide) ?_
      refine gh_aload_n gd_Law_law_941 0 rfl (by decide) ?_
      refine gh_iload_n gd_Law_law_942 3 rfl ?_
      refine gh_iconst gd_Law_law_943 (gh_r0 rfl) ?_
      obtain ⟨q5001, h⟩ := h
      refine gh_iadd gd_Law_law_944 q5001 ?_
      obtain ⟨q5002, h⟩ := h
      obtain ⟨q5003, h⟩ := h
      refine gh_sald gd_Law_law_945 q5002 q5003 ?_
      obtain ⟨q5004, h⟩ := h
      refine cv_Model_step (d := d + 35) gd_Law_law_946 gh_k2029 hF (Nat.le_of_ble_eq_true rfl) (gh_C.pe (e_Model_step (d + 34) (m 1 (v3 + 1)) hF q5004) ?_)
      obtain ⟨hA, hB⟩ := h
      refine gh_jeq (tgt := 1027) gd_Law_law_949 (by decide) (fun c5005 => ?_) (fun c5005 => ?_)
      · have h := hA c5005
        exact hJ1027 m hF h
      · have h := hB c5005
        refine gh_iconst gd_Law_law_952 (gh_r0 rfl) ?_
        exact gh_ret8 rfl gd_Law_law_953 (by decide) ⟨hF, h⟩
    obtain ⟨hA, h⟩ := h
    by_cases c5006 : (gh_iand_f (m 1 v3) 31) = 27
    · have h := hA c5006
      refine gh_tabIn (tgt := 954) gd_Law_law_33 (by rw [c5006]; decide) (by rw [c5006]; decide) (by rw [c5006]; rfl) (by decide) ?_
      refine gh_aload_n gd_Law_law_954 1 rfl (by decide) ?_
      refine cv_House_deep (d := d + 35) gd_Law_law_955 gh_k1298 hF (Nat.le_of_ble_eq_true rfl) (gh_C.pe (e_House_deep (d + 35)  hF) ?_)
      refine gh_aload_n gd_Law_law_958 2 rfl (by decide) ?_
      refine cv_Model_deep (d := d + 35) gd_Law_law_959 gh_k2033 hF (Nat.le_of_ble_eq_true rfl) (gh_C.pe (e_Model_deep (d + 35)  hF) ?_)
      obtain ⟨hA, hB⟩ := h
      refine gh_jeq (tgt := 1027) gd_Law_law_962 (by decide) (fun c5007 => ?_) (fun c5007 => ?_)
      · have h := hA c5007
        exact hJ1027 m hF h
      · have h := hB c5007
        refine gh_iconst gd_Law_law_965 (gh_r0 rfl) ?_
        exact gh_ret8 rfl gd_Law_law_966 (by decide) ⟨hF, h⟩
    obtain ⟨hA, h⟩ := h
    by_cases c5008 : (gh_iand_f (m 1 v3) 31) = 28
    · have h := hA c5008
      refine gh_tabIn (tgt := 967) gd_Law_law_33 (by rw [c5008]; decide) (by rw [c5008]; decide) (by rw [c5008]; rfl) (by decide) ?_
      refine gh_aload_n gd_Law_law_967 1 rfl (by decide) ?_
      refine gh_aload_n gd_Law_law_968 0 rfl (by decide) ?_
      refine gh_iload_n gd_Law_law_969 3 rfl ?_
      refine gh_iconst gd_Law_law_970 (gh_r0 rfl) ?_
      obtain ⟨q5009, h⟩ := h
      refine gh_iadd gd_Law_law_971 q5009 ?_
      obtain ⟨q5010, h⟩ := h
      obtain ⟨q5011, h⟩ := h
      refine gh_sald gd_Law_law_972 q5010 q5011 ?_
      refine cv_House_proper (d := d + 35) gd_Law_law_973 gh_k1302 hF (Nat.le_of_ble_eq_true rfl) (gh_C.mono (s_House_proper (d + 31) (m 1 (v3 + 1)) hF h) (fun r5012 m5013 hq => ?_))
      obtain ⟨hF, h⟩ := hq
      refine gh_aload_n gd_Law_law_976 2 rfl (by decide) ?_
      refine gh_aload_n gd_Law_law_977 0 rfl (by decide) ?_
      refine gh_iload_n gd_Law_law_978 3 rfl ?_
      refine gh_iconst gd_Law_law_979 (gh_r0 rfl) ?_
      obtain ⟨q5014, h⟩ := h
      refine gh_iadd gd_Law_law_980 q5014 ?_
      obtain ⟨q5015, h⟩ := h
      obtain ⟨q5016, h⟩ := h
      refine gh_sald gd_Law_law_981 q5015 q5016 ?_
      refine cv_Model_proper (d := d + 35) gd_Law_law_982 gh_k1867 hF (Nat.le_of_ble_eq_true rfl) (gh_C.pw (s_Model_proper (d + 34) (m5013 1 (v3 + 1)) hF h) (fun r5017 h => ?_))
      obtain ⟨hA, hB⟩ := h
      refine gh_jeq (tgt := 1027) gd_Law_law_985 (by decide) (fun c5019 => ?_) (fun c5019 => ?_)
      · have h := hA c5019
        exact hJ1027 m5013 hF h
      · have h := hB c5019
        refine gh_iconst gd_Law_law_988 (gh_r0 rfl) ?_
        exact gh_ret8 rfl gd_Law_law_989 (by decide) ⟨hF, h⟩
    obtain ⟨hA, h⟩ := h
    by_cases c5020 : (gh_iand_f (m 1 v3) 31) = 29
    · have h := hA c5020
      refine gh_tabIn (tgt := 990) gd_Law_law_33 (by rw [c5020]; decide) (by rw [c5020]; decide) (by rw [c5020]; rfl) (by decide) ?_
      refine gh_aload_n gd_Law_law_990 1 rfl (by decide) ?_
      refine gh_aload_n gd_Law_law_991 0 rfl (by decide) ?_
      refine gh_iload_n gd_Law_law_992 3 rfl ?_
      refine gh_iconst gd_Law_law_993 (gh_r0 rfl) ?_
      obtain ⟨q5021, h⟩ := h
      refine gh_iadd gd_Law_law_994 q5021 ?_
      obtain ⟨q5022, h⟩ := h
      obtain ⟨q5023, h⟩ := h
      refine gh_sald gd_Law_law_995 q5022 q5023 ?_
      refine cv_House_properly (d := d + 35) gd_Law_law_996 gh_k1343 hF (Nat.le_of_ble_eq_true rfl) (gh_C.mono (s_House_properly (d + 29) (m 1 (v3 + 1)) hF h) (fun r5024 m5025 hq => ?_))
      obtain ⟨hF, h⟩ := hq
      refine gh_aload_n gd_Law_law_999 2 rfl (by decide) ?_
      refine gh_aload_n gd_Law_law_1000 0 rfl (by decide) ?_
      refine gh_iload_n gd_Law_law_1001 3 rfl ?_
      refine gh_iconst gd_Law_law_1002 (gh_r0 rfl) ?_
      obtain ⟨q5026, h⟩ := h
      refine gh_iadd gd_Law_law_1003 q5026 ?_
      obtain ⟨q5027, h⟩ := h
      obtain ⟨q5028, h⟩ := h
      refine gh_sald gd_Law_law_1004 q5027 q5028 ?_
      refine cv_Model_properly (d := d + 35) gd_Law_law_1005 gh_k1871 hF (Nat.le_of_ble_eq_true rfl) (gh_C.mono (s_Model_properly (d + 33) (m5025 1 (v3 + 1)) hF h) (fun r5029 m5030 hq => ?_))
      obtain ⟨hF, h⟩ := hq
      obtain ⟨hA, hB⟩ := h
      refine gh_jeq (tgt := 1027) gd_Law_law_1008 (by decide) (fun c5031 => ?_) (fun c5031 => ?_)
      · have h := hA c5031
        exact hJ1027 m5030 hF h
      · have h := hB c5031
        refine gh_iconst gd_Law_law_1011 (gh_r0 rfl) ?_
        exact gh_ret8 rfl gd_Law_law_1012 (by decide) ⟨hF, h⟩
    obtain ⟨hA, h⟩ := h
    by_cases c5032 : (gh_iand_f (m 1 v3) 31) = 30
    · have h := hA c5032
      refine gh_tabIn (tgt := 1013) gd_Law_law_33 (by rw [c5032]; decide) (by rw [c5032]; decide) (by rw [c5032]; rfl) (by decide) ?_
      refine gh_aload_n gd_Law_law_1013 1 rfl (by decide) ?_
      refine cv_House_digest (d := d + 35) gd_Law_law_1014 gh_k1347 hF (Nat.le_of_ble_eq_true rfl) (gh_C.mono (s_House_digest (d + 28) hF h) (fun r5033 m5034 hq => ?_))
      obtain ⟨hF, h⟩ := hq
      refine gh_aload_n gd_Law_law_1017 2 rfl (by decide) ?_
      refine cv_Model_digest (d := d + 35) gd_Law_law_1018 gh_k2069 hF (Nat.le_of_ble_eq_true rfl) (gh_C.mono (s_Model_digest (d + 31) hF h) (fun r5035 m5036 hq => ?_))
      obtain ⟨hF, h⟩ := hq
      refine gh_lcmp gd_Law_law_1021 ?_
      obtain ⟨hA, hB⟩ := h
      refine gh_ceq (tgt := 1027) gd_Law_law_1022 (by decide) (fun c5037 => ?_) (fun c5037 => ?_)
      · have h := hA c5037
        exact hJ1027 m5036 hF h
      · have h := hB c5037
        refine gh_iconst gd_Law_law_1025 (gh_r0 rfl) ?_
        exact gh_ret8 rfl gd_Law_law_1026 (by decide) ⟨hF, h⟩
    have n5038 : ¬ ((gh_iand_f (m 1 v3) 31) = 0) := c4615
    have n5039 : ¬ ((gh_iand_f (m 1 v3) 31) = 1) := c4651
    have n5040 : ¬ ((gh_iand_f (m 1 v3) 31) = 2) := c4657
    have n5041 : ¬ ((gh_iand_f (m 1 v3) 31) = 3) := c4667
    have n5042 : ¬ ((gh_iand_f (m 1 v3) 31) = 4) := c4673
    have n5043 : ¬ ((gh_iand_f (m 1 v3) 31) = 5) := c4683
    have n5044 : ¬ ((gh_iand_f (m 1 v3) 31) = 6) := c4695
    have n5045 : ¬ ((gh_iand_f (m 1 v3) 31) = 7) := c4713
    have n5046 : ¬ ((gh_iand_f (m 1 v3) 31) = 8) := c4730
    have n5047 : ¬ ((gh_iand_f (m 1 v3) 31) = 9) := c4746
    have n5048 : ¬ ((gh_iand_f (m 1 v3) 31) = 10) := c4762
    have n5049 : ¬ ((gh_iand_f (m 1 v3) 31) = 11) := c4772
    have n5050 : ¬ ((gh_iand_f (m 1 v3) 31) = 12) := c4782
    have n5051 : ¬ ((gh_iand_f (m 1 v3) 31) = 13) := c4800
    have n5052 : ¬ ((gh_iand_f (m 1 v3) 31) = 14) := c4812
    have n5053 : ¬ ((gh_iand_f (m 1 v3) 31) = 15) := c4824
    have n5054 : ¬ ((gh_iand_f (m 1 v3) 31) = 16) := c4836
    have n5055 : ¬ ((gh_iand_f (m 1 v3) 31) = 17) := c4846
    have n5056 : ¬ ((gh_iand_f (m 1 v3) 31) = 18) := c4858
    have n5057 : ¬ ((gh_iand_f (m 1 v3) 31) = 19) := c4870
    have n5058 : ¬ ((gh_iand_f (m 1 v3) 31) = 20) := c4882
    have n5059 : ¬ ((gh_iand_f (m 1 v3) 31) = 21) := c4912
    have n5060 : ¬ ((gh_iand_f (m 1 v3) 31) = 22) := c4936
    have n5061 : ¬ ((gh_iand_f (m 1 v3) 31) = 23) := c4948
    have n5062 : ¬ ((gh_iand_f (m 1 v3) 31) = 24) := c4954
    have n5063 : ¬ ((gh_iand_f (m 1 v3) 31) = 25) := c4978
    have n5064 : ¬ ((gh_iand_f (m 1 v3) 31) = 26) := c4996
    have n5065 : ¬ ((gh_iand_f (m 1 v3) 31) = 27) := c5006
    have n5066 : ¬ ((gh_iand_f (m 1 v3) 31) = 28) := c5008
    have n5067 : ¬ ((gh_iand_f (m 1 v3) 31) = 29) := c5020
    have n5068 : ¬ ((gh_iand_f (m 1 v3) 31) = 30) := c5032
    refine gh_tabOut (tgt := 1027) gd_Law_law_33 (by omega) (by decide) ?_
    have h := h c4615 c4651 c4657 c4667 c4673 c4683 c4695 c4713 c4730 c4746 c4762 c4772 c4782 c4800 c4812 c4824 c4836 c4846 c4858 c4870 c4882 c4912 c4936 c4948 c4954 c4978 c4996 c5006 c5008 c5020 c5032
    exact hJ1027 m hF h
  · have h := hB c4611
    refine gh_iconst gd_Law_law_1033 (gh_r0 rfl) ?_
    exact gh_ret8 rfl gd_Law_law_1034 (by decide) ⟨hF, h⟩
theorem s_Law {E : gh_E} {m : gh_M} {Q : Int → gh_M → Prop} (d : Nat) (hF : gh_F m) (h : w_Law m Q) : gh_T E gh_MLaw (d + 36) 16 [(2, 2, 63), (1, 2, 2), (0, 2, 1)] [] m (fun r m1 => gh_F m1 ∧ Q r m1) := by
  unfold w_Law at h
  refine gh_iconst gd_Law_law_16 (gh_r0 rfl) ?_
  refine gh_istore_n (L2 := [(3, 0, 0), (2, 2, 63), (1, 2, 2), (0, 2, 1)]) gd_Law_law_17 (by decide) rfl ?_
  refine gh_pick (L2 := [(0, 2, 1), (1, 2, 2), (2, 2, 63), (3, 0, 0)]) [3, 2, 1, 0] rfl ?_
  exact gh_M1_sound (T := fun v3 m => gh_T E gh_MLaw (d + 36) 18 [(0, 2, 1), (1, 2, 2), (2, 2, 63), (3, 0, v3)] [] m (fun r m1 => gh_F m1 ∧ Q r m1)) (fun _ m => gh_F m) (fun K18 v3 m hK hF h => b_Law_law_18 d hK v3 m hF h) 0 m hF h
