/** The boundary sentences of the promises 29 to 32: stamps, sums together and the search for the best. */
public final class StampBoundaryTest {
  private static final String TWELVE = "mint 0: 13 14 15 16 17 18 19 20 21 22 23 24";
  private static final Sentences TEST = new Sentences();

  private static void stamps() {
    TEST.sentence("promise 29", "The greatest sum up to which all, from 1 on, can be paid with SIZE at most h", "mint 0: 1 3 4",
        "stamps(0, 1) = 1", "unchanged: stamps(0, 2) = 8", "stamps(0, 50) = 200", "mint 1: 1 300", "stamps(1, 50) = 50",
        "mint 2: 1 2 3 4 5 6 7 8 9 10 11 12", "stamps(2, 1) = 12", "stamps(2, 50) = 600", "mint 3: 1", "stamps(3, 1) = 1",
        "stamps(3, 50) = 50");
    TEST.sentence("promise 29", "0 if 1 can't", "unchanged: stamps(0, 50) = 0", "stamps(0, 1) = 0", "mint 0: 2 3",
        "unchanged: stamps(0, 50) = 0", "coin(0, 1) = 3", "stamps(0, 1) = 3");
    TEST.sentence("promise 29", "IllegalArgumentException: h is not 1 to 50.", "mint 0: 1", "unchanged: stamps(0, 0) = Illegal",
        "unchanged: stamps(0, 51) = Illegal", "stamps(0, -1) = Illegal", "stamps(0, MIN) = Illegal", "stamps(0, MAX) = Illegal",
        "stamps(1, 0) = Illegal", "stamps(1, 51) = Illegal", "stamps(0, 50) = 50");
  }

  private static void span() {
    TEST.sentence("promise 30", "FEWEST of all sums from a to b together", "mint 0: 1", "unchanged: span(0, 0, 0) = 0",
        "span(0, 0, 1) = 1", "span(0, 1, 1) = 1", "span(0, 0, 100_000) = 5_000_050_000", "span(0, 100_000, 100_000) = 100_000",
        "mint 1: 1 300", "span(1, 0, 100_000) = 31_557_133", "span(1, 299, 300) = 300", "span(1, 300, 301) = 3", "mint 2: 2 3",
        "span(2, 2, 100_000) = 1_666_716_666", "mint 3: 299 300", "span(3, 89_102, 100_000) = 3_440_502", "mint 4: 1 299 300", "span(4, 298, 298) = 298",
        "span(4, 0, 298) = 44_551", "span(4, 597, 598) = 300");
    TEST.sentence("promise 30", "NONE if one can't be paid.", "unchanged: span(0, 0, 1) = NONE", "span(0, 0, 0) = 0",
        "span(0, 1, 1) = NONE", "span(0, 100_000, 100_000) = NONE", "mint 0: 2", "span(0, 2, 2) = 1", "span(0, 2, 3) = NONE",
        "span(0, 1, 2) = NONE", "span(0, 0, 100_000) = NONE", "mint 1: 2 3", "span(1, 1, 100_000) = NONE", "span(1, 0, 0) = 0",
        "mint 2: 299 300", "unchanged: span(2, 89_101, 100_000) = NONE", "span(2, 89_101, 89_101) = NONE",
        "span(2, 299, 301) = NONE", "span(2, 298, 300) = NONE", "span(2, 299, 300) = 2", "mint 3: 300",
        "span(3, 300, 300) = 1", "span(3, 299, 300) = NONE");
    TEST.sentence("promise 30", "IllegalArgumentException: not 0 &lt;= a &lt;= b &lt;= 100,000.", "mint 0: 1",
        "unchanged: span(0, -1, 5) = Illegal", "unchanged: span(0, -1, -1) = Illegal", "unchanged: span(0, 5, 4) = Illegal",
        "unchanged: span(0, 5, 100_001) = Illegal", "span(0, 100_001, 100_001) = Illegal", "span(0, 0, -1) = Illegal",
        "span(0, MIN, MAX) = Illegal", "span(0, MAX, MIN) = Illegal", "span(0, MIN, 5) = Illegal", "span(0, 5, MAX) = Illegal",
        "span(0, 0, MIN) = Illegal", "span(1, 1, 0) = Illegal", "span(1, 0, 100_001) = Illegal", "span(0, 5, 5) = 5");
  }

  private static void best() {
    TEST.sentence("promise 31", "A MINT becomes (a new STATE) the best one of k COINS for h", TWELVE, "best(1, 1, 0) = 1",
        "mint 0 is: 1", "undo() = true", "mint 0 is: 13 14 15 16 17 18 19 20 21 22 23 24", "redo() = true", "mint 0 is: 1",
        "best(6, 2, 7) = 20", "mint 7 is: 1 2 5 8 9 10", "best(3, 12, 7) = 212", "mint 7 is: 1 11 37", "best(2, 12, 7) = 54",
        "mint 7 is: 1 7", "stamps(7, 12) = 54");
    TEST.sentence("promise 31", "of like ones the first, by its least COIN, then the next", "best(2, 2, 0) = 4",
        "mint 0 is: 1 2", "mint 1: 1 3", "stamps(1, 2) = 4", "best(2, 4, 0) = 10", "mint 0 is: 1 3", "mint 2: 1 4",
        "stamps(2, 4) = 10");
    TEST.sentence("promise 31", "at most stamps() (for h) of these and 1", "best(6, 1, 0) = 6", "mint 0 is: 1 2 3 4 5 6",
        "cases() = 6", "best(2, 1, 0) = 2", "cases() = 2", "best(2, 12, 0) = 54", "cases() = 13");
    TEST.sentence("promise 31", "CASES: one for each beginning .. (1 alone the first, whole ones too)", "best(1, 12, 0) = 12",
        "cases() = 1", "best(2, 2, 0) = 4", "cases() = 3", "best(3, 2, 0) = 8", "cases() = 8", "best(4, 2, 0) = 12", "cases() = 25",
        "best(5, 2, 0) = 16", "cases() = 90");
    TEST.sentence("promise 31", "there would be more than 2,000 of them", "best(4, 6, 0) = 114", "mint 0 is: 1 4 19 33",
        "cases() = 1772", "best(5, 3, 0) = 36", "mint 0 is: 1 4 6 14 15", "cases() = 863");
    for (String call : new String[] {"best(4, 7, 0)", "best(4, 12, 0)", "best(5, 4, 0)", "best(6, 3, 0)", "best(6, 12, 0)"}) {
      TEST.sentence("promise 31, " + call, "-2, and nothing changes: there would be more than 2,000 of them.", TWELVE,
          "coin(1, 5) = 1", "coin(1, 6) = 2", "undo() = true", call + " = -2", "mint 0 is: 13 14 15 16 17 18 19 20 21 22 23 24",
          "redo() = true", "mint 1 is: 5 6", "undo() = true", "undo() = true", "mint 1 is:", "cases() = 2000",
          "unchanged: " + call + " = -2");
    }
    TEST.sentence("promise 31", "IllegalArgumentException: k is not 1 to 6", "best(3, 2, 0) = 8", "unchanged: best(0, 1, 0) = Illegal",
        "unchanged: best(7, 1, 0) = Illegal", "unchanged: best(-1, 1, 0) = Illegal", "unchanged: best(MIN, 1, 0) = Illegal",
        "unchanged: best(MAX, 1, 0) = Illegal", "best(6, 1, 0) = 6");
    TEST.sentence("promise 31", "h not 1 to 12", "best(3, 2, 0) = 8", "unchanged: best(1, 0, 0) = Illegal",
        "unchanged: best(1, 13, 0) = Illegal", "unchanged: best(1, -1, 0) = Illegal", "unchanged: best(6, 13, 0) = Illegal",
        "unchanged: best(1, MIN, 0) = Illegal", "unchanged: best(1, MAX, 0) = Illegal", "best(1, 12, 0) = 12");
  }

  private static void cases() {
    TEST.sentence("promise 32", "CASES of the latest best()", "best(3, 2, 0) = 8", "unchanged: cases() = 8", "best(2, 2, 0) = 4",
        "unchanged: cases() = 3", "undo() = true", "cases() = 3", "best(0, 1, 0) = Illegal", "cases() = 3",
        "best(1, 1, 8) = NoSuch", "cases() = 3", "stamps(0, 5) = 20", "cases() = 3");
    TEST.sentence("promise 32", "(2,000, if there would have been more", "best(4, 7, 0) = -2", "unchanged: cases() = 2000",
        "best(1, 1, 0) = 1", "cases() = 1", "best(6, 12, 0) = -2", "cases() = 2000");
    TEST.sentence("promise 32", "0 without one)", "unchanged: cases() = 0", "mint 0: 1", "stamps(0, 12) = 12", "cases() = 0",
        "best(1, 13, 0) = Illegal", "cases() = 0", "best(1, 1, -1) = NoSuch", "unchanged: cases() = 0");
  }

  public static void main(String[] args) {
    stamps();
    span();
    best();
    cases();
    TEST.end();
  }
}
