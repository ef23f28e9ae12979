theorem d_Q_law_739 : decode code 739 = .ok (.invokevirtual 72, 3) := by decide +kernel
theorem d_Q_law_742 : decode code 742 = .ok (.iload 5, 2) := by decide +kernel
theorem d_Q_law_744 : decode code 744 = .ok (.if_icmp .eq 5, 3) := by decide +kernel
theorem d_Q_law_747 : decode code 747 = .ok (.iconst 0, 1) := by decide +kernel
theorem d_Q_law_748 : decode code 748 = .ok (.ireturn, 1) := by decide +kernel
theorem d_Q_law_749 : decode code 749 = .ok (.iload 5, 2) := by decide +kernel
theorem d_Q_law_751 : decode code 751 = .ok (.ifCond .ne 15, 3) := by decide +kernel
theorem d_Q_law_754 : decode code 754 = .ok (.aload_n 3, 1) := by decide +kernel
theorem d_Q_law_755 : decode code 755 = .ok (.iconst 0, 1) := by decide +kernel
theorem d_Q_law_756 : decode code 756 = .ok (.laload, 1) := by decide +kernel
theorem d_Q_law_757 : decode code 757 = .ok (.iload 6, 2) := by decide +kernel
theorem d_Q_law_759 : decode code 759 = .ok (.i2l, 1) := by decide +kernel
theorem d_Q_law_760 : decode code 760 = .ok (.lcmp, 1) := by decide +kernel
theorem d_Q_law_761 : decode code 761 = .ok (.ifCond .eq 5, 3) := by decide +kernel
theorem d_Q_law_764 : decode code 764 = .ok (.iconst 0, 1) := by decide +kernel
theorem d_Q_law_765 : decode code 765 = .ok (.ireturn, 1) := by decide +kernel
theorem d_Q_law_766 : decode code 766 = .ok (.goto 243, 3) := by decide +kernel
theorem d_Q_law_769 : decode code 769 = .ok (.aload_n 1, 1) := by decide +kernel
theorem d_Q_law_770 : decode code 770 = .ok (.aload_n 0, 1) := by decide +kernel
theorem d_Q_law_771 : decode code 771 = .ok (.iload 4, 2) := by decide +kernel
theorem d_Q_law_773 : decode code 773 = .ok (.iconst 1, 1) := by decide +kernel
theorem d_Q_law_774 : decode code 774 = .ok (.iadd, 1) := by decide +kernel
theorem d_Q_law_775 : decode code 775 = .ok (.iaload, 1) := by decide +kernel
theorem d_Q_law_776 : decode code 776 = .ok (.aload_n 0, 1) := by decide +kernel
theorem d_Q_law_777 : decode code 777 = .ok (.iload 4, 2) := by decide +kernel
theorem d_Q_law_779 : decode code 779 = .ok (.iconst 2, 1) := by decide +kernel
theorem d_Q_law_780 : decode code 780 = .ok (.iadd, 1) := by decide +kernel
theorem d_Q_law_781 : decode code 781 = .ok (.iaload, 1) := by decide +kernel
theorem d_Q_law_782 : decode code 782 = .ok (.aload_n 3, 1) := by decide +kernel
theorem d_Q_law_783 : decode code 783 = .ok (.invokestatic 114, 3) := by decide +kernel
theorem d_Q_law_786 : decode code 786 = .ok (.istore 5, 2) := by decide +kernel
theorem d_Q_law_788 : decode code 788 = .ok (.aload_n 2, 1) := by decide +kernel
theorem d_Q_law_789 : decode code 789 = .ok (.aload_n 0, 1) := by decide +kernel
theorem d_Q_law_790 : decode code 790 = .ok (.iload 4, 2) := by decide +kernel
theorem d_Q_law_792 : decode code 792 = .ok (.iconst 1, 1) := by decide +kernel
theorem d_Q_law_793 : decode code 793 = .ok (.iadd, 1) := by decide +kernel
theorem d_Q_law_794 : decode code 794 = .ok (.iaload, 1) := by decide +kernel
theorem d_Q_law_795 : decode code 795 = .ok (.aload_n 0, 1) := by decide +kernel
theorem d_Q_law_796 : decode code 796 = .ok (.iload 4, 2) := by decide +kernel
theorem d_Q_law_798 : decode code 798 = .ok (.iconst 2, 1) := by decide +kernel
theorem d_Q_law_799 : decode code 799 = .ok (.iadd, 1) := by decide +kernel
theorem d_Q_law_800 : decode code 800 = .ok (.iaload, 1) := by decide +kernel
theorem d_Q_law_801 : decode code 801 = .ok (.invokevirtual 116, 3) := by decide +kernel
theorem d_Q_law_804 : decode code 804 = .ok (.istore 6, 2) := by decide +kernel
theorem d_Q_law_806 : decode code 806 = .ok (.aload_n 2, 1) := by decide +kernel
theorem d_Q_law_807 : decode code 807 = .ok (.invokevirtual 72, 3) := by decide +kernel
theorem d_Q_law_810 : decode code 810 = .ok (.iload 5, 2) := by decide +kernel
theorem d_Q_law_812 : decode code 812 = .ok (.if_icmp .eq 5, 3) := by decide +kernel
theorem d_Q_law_815 : decode code 815 = .ok (.iconst 0, 1) := by decide +kernel
theorem d_Q_law_816 : decode code 816 = .ok (.ireturn, 1) := by decide +kernel
theorem d_Q_law_817 : decode code 817 = .ok (.iload 5, 2) := by decide +kernel
theorem d_Q_law_819 : decode code 819 = .ok (.ifCond .ne 15, 3) := by decide +kernel
theorem d_Q_law_822 : decode code 822 = .ok (.aload_n 3, 1) := by decide +kernel
theorem d_Q_law_823 : decode code 823 = .ok (.iconst 0, 1) := by decide +kernel
theorem d_Q_law_824 : decode code 824 = .ok (.laload, 1) := by decide +kernel
theorem d_Q_law_825 : decode code 825 = .ok (.iload 6, 2) := by decide +kernel
theorem d_Q_law_827 : decode code 827 = .ok (.i2l, 1) := by decide +kernel
theorem d_Q_law_828 : decode code 828 = .ok (.lcmp, 1) := by decide +kernel
theorem d_Q_law_829 : decode code 829 = .ok (.ifCond .eq 5, 3) := by decide +kernel
theorem d_Q_law_832 : decode code 832 = .ok (.iconst 0, 1) := by decide +kernel
theorem d_Q_law_833 : decode code 833 = .ok (.ireturn, 1) := by decide +kernel
theorem d_Q_law_834 : decode code 834 = .ok (.goto 175, 3) := by decide +kernel
theorem d_Q_law_837 : decode code 837 = .ok (.aload_n 1, 1) := by decide +kernel
theorem d_Q_law_838 : decode code 838 = .ok (.aload_n 0, 1) := by decide +kernel
theorem d_Q_law_839 : decode code 839 = .ok (.iload 4, 2) := by decide +kernel
theorem d_Q_law_841 : decode code 841 = .ok (.iconst 1, 1) := by decide +kernel
theorem d_Q_law_842 : decode code 842 = .ok (.iadd, 1) := by decide +kernel
theorem d_Q_law_843 : decode code 843 = .ok (.iaload, 1) := by decide +kernel
theorem d_Q_law_844 : decode code 844 = .ok (.aload_n 0, 1) := by decide +kernel
theorem d_Q_law_845 : decode code 845 = .ok (.iload 4, 2) := by decide +kernel
theorem d_Q_law_847 : decode code 847 = .ok (.iconst 2, 1) := by decide +kernel
theorem d_Q_law_848 : decode code 848 = .ok (.iadd, 1) := by decide +kernel
theorem d_Q_law_849 : decode code 849 = .ok (.iaload, 1) := by decide +kernel
theorem d_Q_law_850 : decode code 850 = .ok (.aload_n 3, 1) := by decide +kernel
theorem d_Q_law_851 : decode code 851 = .ok (.invokestatic 117, 3) := by decide +kernel
theorem d_Q_law_854 : decode code 854 = .ok (.istore 5, 2) := by decide +kernel
theorem d_Q_law_856 : decode code 856 = .ok (.aload_n 2, 1) := by decide +kernel
theorem d_Q_law_857 : decode code 857 = .ok (.aload_n 0, 1) := by decide +kernel
theorem d_Q_law_858 : decode code 858 = .ok (.iload 4, 2) := by decide +kernel
theorem d_Q_law_860 : decode code 860 = .ok (.iconst 1, 1) := by decide +kernel
theorem d_Q_law_861 : decode code 861 = .ok (.iadd, 1) := by decide +kernel
theorem d_Q_law_862 : decode code 862 = .ok (.iaload, 1) := by decide +kernel
theorem d_Q_law_863 : decode code 863 = .ok (.aload_n 0, 1) := by decide +kernel
theorem d_Q_law_864 : decode code 864 = .ok (.iload 4, 2) := by decide +kernel
theorem d_Q_law_866 : decode code 866 = .ok (.iconst 2, 1) := by decide +kernel
theorem d_Q_law_867 : decode code 867 = .ok (.iadd, 1) := by decide +kernel
theorem d_Q_law_868 : decode code 868 = .ok (.iaload, 1) := by decide +kernel
theorem d_Q_law_869 : decode code 869 = .ok (.invokevirtual 119, 3) := by decide +kernel
theorem d_Q_law_872 : decode code 872 = .ok (.istore 6, 2) := by decide +kernel
theorem d_Q_law_874 : decode code 874 = .ok (.aload_n 2, 1) := by decide +kernel
theorem d_Q_law_875 : decode code 875 = .ok (.invokevirtual 72, 3) := by decide +kernel
theorem d_Q_law_878 : decode code 878 = .ok (.iload 5, 2) := by decide +kernel
theorem d_Q_law_880 : decode code 880 = .ok (.if_icmp .eq 5, 3) := by decide +kernel
theorem d_Q_law_883 : decode code 883 = .ok (.iconst 0, 1) := by decide +kernel
theorem d_Q_law_884 : decode code 884 = .ok (.ireturn, 1) := by decide +kernel
theorem d_Q_law_885 : decode code 885 = .ok (.iload 5, 2) := by decide +kernel
theorem d_Q_law_887 : decode code 887 = .ok (.ifCond .ne 15, 3) := by decide +kernel
theorem d_Q_law_890 : decode code 890 = .ok (.aload_n 3, 1) := by decide +kernel
theorem d_Q_law_891 : decode code 891 = .ok (.iconst 0, 1) := by decide +kernel
theorem d_Q_law_892 : decode code 892 = .ok (.laload, 1) := by decide +kernel
theorem d_Q_law_893 : decode code 893 = .ok (.iload 6, 2) := by decide +kernel
theorem d_Q_law_895 : decode code 895 = .ok (.i2l, 1) := by decide +kernel
theorem d_Q_law_896 : decode code 896 = .ok (.lcmp, 1) := by decide +kernel
theorem d_Q_law_897 : decode code 897 = .ok (.ifCond .eq 5, 3) := by decide +kernel
theorem d_Q_law_900 : decode code 900 = .ok (.iconst 0, 1) := by decide +kernel
theorem d_Q_law_901 : decode code 901 = .ok (.ireturn, 1) := by decide +kernel
theorem d_Q_law_902 : decode code 902 = .ok (.goto 107, 3) := by decide +kernel
theorem d_Q_law_905 : decode code 905 = .ok (.aload_n 1, 1) := by decide +kernel
theorem d_Q_law_906 : decode code 906 = .ok (.aload_n 0, 1) := by decide +kernel
theorem d_Q_law_907 : decode code 907 = .ok (.iload 4, 2) := by decide +kernel
theorem d_Q_law_909 : decode code 909 = .ok (.iconst 1, 1) := by decide +kernel
theorem d_Q_law_910 : decode code 910 = .ok (.iadd, 1) := by decide +kernel
theorem d_Q_law_911 : decode code 911 = .ok (.iaload, 1) := by decide +kernel
theorem d_Q_law_912 : decode code 912 = .ok (.aload_n 0, 1) := by decide +kernel
theorem d_Q_law_913 : decode code 913 = .ok (.iload 4, 2) := by decide +kernel
theorem d_Q_law_915 : decode code 915 = .ok (.iconst 2, 1) := by decide +kernel
theorem d_Q_law_916 : decode code 916 = .ok (.iadd, 1) := by decide +kernel
theorem d_Q_law_917 : decode code 917 = .ok (.iaload, 1) := by decide +kernel
theorem d_Q_law_918 : decode code 918 = .ok (.aload_n 3, 1) := by decide +kernel
theorem d_Q_law_919 : decode code 919 = .ok (.invokestatic 120, 3) := by decide +kernel
theorem d_Q_law_922 : decode code 922 = .ok (.istore 5, 2) := by decide +kernel
theorem d_Q_law_924 : decode code 924 = .ok (.aload_n 2, 1) := by decide +kernel
theorem d_Q_law_925 : decode code 925 = .ok (.aload_n 0, 1) := by decide +kernel
theorem d_Q_law_926 : decode code 926 = .ok (.iload 4, 2) := by decide +kernel
theorem d_Q_law_928 : decode code 928 = .ok (.iconst 1, 1) := by decide +kernel
theorem d_Q_law_929 : decode code 929 = .ok (.iadd, 1) := by decide +kernel
theorem d_Q_law_930 : decode code 930 = .ok (.iaload, 1) := by decide +kernel
theorem d_Q_law_931 : decode code 931 = .ok (.aload_n 0, 1) := by decide +kernel
theorem d_Q_law_932 : decode code 932 = .ok (.iload 4, 2) := by decide +kernel
theorem d_Q_law_934 : decode code 934 = .ok (.iconst 2, 1) := by decide +kernel
theorem d_Q_law_935 : decode code 935 = .ok (.iadd, 1) := by decide +kernel
theorem d_Q_law_936 : decode code 936 = .ok (.iaload, 1) := by decide +kernel
theorem d_Q_law_937 : decode code 937 = .ok (.invokevirtual 122, 3) := by decide +kernel
theorem d_Q_law_940 : decode code 940 = .ok (.istore 6, 2) := by decide +kernel
theorem d_Q_law_942 : decode code 942 = .ok (.aload_n 2, 1) := by decide +kernel
theorem d_Q_law_943 : decode code 943 = .ok (.invokevirtual 72, 3) := by decide +kernel
theorem d_Q_law_946 : decode code 946 = .ok (.iload 5, 2) := by decide +kernel
theorem d_Q_law_948 : decode code 948 = .ok (.if_icmp .eq 5, 3) := by decide +kernel
theorem d_Q_law_951 : decode code 951 = .ok (.iconst 0, 1) := by decide +kernel
theorem d_Q_law_952 : decode code 952 = .ok (.ireturn, 1) := by decide +kernel
