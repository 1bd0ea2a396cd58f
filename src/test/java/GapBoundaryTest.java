/** The boundary sentences of term 1 and the promises 12 to 22: gaps, needed coins and mints made of mints. */
public final class GapBoundaryTest {
  // 13 to 24 are all needed, 25 beside them too, and 26 is not.
  private static final String ALL_NEEDED = "mint 0: 13 14 15 16 17 18 19 20 21 22 23 24";
  private static final String FULL_TARGET = "mint 5: 100 110 120 130 140 150 160 170 180 190 200 300";
  private static final String FULL_TARGET_IS = "mint 5 is: 100 110 120 130 140 150 160 170 180 190 200 300";
  private static final Sentences TEST = new Sentences();

  private static void divisor() {
    TEST.sentence("promise 12", "The DIVISOR .. that all COINS have in common (0 of none)", "unchanged: divisor(0) = 0",
        "mint 0: 300", "divisor(0) = 300", "coin(0, 150) = 2", "unchanged: divisor(0) = 150", "coin(0, 100) = 3",
        "divisor(0) = 50", "coin(0, 299) = 4", "divisor(0) = 1", "mint 1: 1", "divisor(1) = 1", "mint 2: 299 300",
        "divisor(2) = 1", "melt(1, 1) = true", "divisor(1) = 0");
  }

  private static void manyAndLast() {
    TEST.sentence("promise 13", "How many GAPS", "mint 0: 1", "unchanged: many(0) = 0", "mint 1: 2 3", "many(1) = 1",
        "mint 2: 6 9 20", "many(2) = 22", "mint 3: 299 300", "unchanged: many(3) = 44_551", "mint 4: 1 300", "many(4) = 0");
    TEST.sentence("promise 13", "NONE, if there is no end of them (the DIVISOR isn't 1).", "unchanged: many(0) = NONE",
        "mint 0: 2", "many(0) = NONE", "coin(0, 300) = 2", "many(0) = NONE", "coin(0, 3) = 3", "many(0) = 1", "mint 1: 300",
        "many(1) = NONE", "mint 2: 6 9", "many(2) = NONE");
    TEST.sentence("promise 14", "The last GAP", "mint 0: 2 3", "unchanged: last(0) = 1", "mint 1: 6 9 20", "last(1) = 43",
        "mint 2: 299 300", "unchanged: last(2) = 89_101");
    TEST.sentence("promise 14", "NONE if there is none", "mint 0: 1", "last(0) = NONE", "mint 1: 1 299 300",
        "unchanged: last(1) = NONE");
    TEST.sentence("promise 14", "-2, if there is no end of them.", "unchanged: last(0) = -2", "mint 0: 2", "last(0) = -2",
        "mint 1: 300", "last(1) = -2", "mint 2: 6 9", "last(2) = -2", "coin(2, 20) = 3", "last(2) = 43");
  }

  private static void gap() {
    TEST.sentence("promise 15", "The i-th GAP, from 0 on", "mint 0: 6 9 20", "unchanged: gap(0, 0) = 1", "gap(0, 4) = 5",
        "gap(0, 5) = 7", "gap(0, 21) = 43", "mint 1: 299 300", "gap(1, 0) = 1", "gap(1, 297) = 298", "gap(1, 298) = 301",
        "gap(1, 44_550) = 89_101");
    TEST.sentence("promise 15", "(also of a MINT with no end of them)", "gap(0, 0) = 1", "unchanged: gap(0, 1) = 2",
        "gap(0, 1_000_000) = 1_000_001", "mint 1: 2", "gap(1, 0) = 1", "gap(1, 1) = 3", "gap(1, 1_000_000) = 2_000_001",
        "mint 2: 300", "gap(2, 298) = 299", "gap(2, 299) = 301", "unchanged: gap(2, 1_000_000) = 1_003_345", "mint 3: 4 6",
        "gap(3, 1) = 2", "gap(3, 2) = 3", "gap(3, 3) = 5", "gap(3, 1_000_000) = 1_999_999");
    TEST.sentence("promise 15", "NONE: there is none such.", "mint 0: 1", "unchanged: gap(0, 0) = NONE",
        "gap(0, 1_000_000) = NONE", "mint 1: 2 3", "gap(1, 0) = 1", "gap(1, 1) = NONE", "mint 2: 299 300",
        "unchanged: gap(2, 44_551) = NONE", "gap(2, 1_000_000) = NONE");
    TEST.sentence("promise 15", "IllegalArgumentException: i is not 0 to 1,000,000.", "mint 0: 2", "mint 1: 1",
        "unchanged: gap(0, -1) = Illegal", "unchanged: gap(0, 1_000_001) = Illegal", "gap(0, MIN) = Illegal",
        "gap(0, MAX) = Illegal", "gap(1, -1) = Illegal", "gap(1, 1_000_001) = Illegal", "gap(2, -1) = Illegal",
        "gap(2, 1_000_001) = Illegal", "gap(2, MAX) = Illegal");
  }

  private static void rest() {
    TEST.sentence("promise 16", "The least sum that can be paid and leaves the rest r, divided by the least COIN",
        "mint 0: 6 9 20", "unchanged: rest(0, 0) = 0", "rest(0, 1) = 49", "rest(0, 2) = 20", "rest(0, 3) = 9", "rest(0, 4) = 40",
        "unchanged: rest(0, 5) = 29", "mint 1: 299 300", "rest(1, 298) = 89_400", "mint 2: 1 300", "rest(2, 0) = 0",
        "mint 3: 9 11 15", "rest(3, 1) = 37", "rest(3, 7) = 52", "rest(3, 8) = 26");
    TEST.sentence("promise 16", "NONE if there is none.", "mint 0: 4 6", "unchanged: rest(0, 1) = NONE", "rest(0, 2) = 6",
        "rest(0, 3) = NONE", "mint 1: 300", "rest(1, 0) = 0", "rest(1, 1) = NONE", "rest(1, 299) = NONE");
    TEST.sentence("promise 16", "IllegalArgumentException: r is not 0 to that COIN less 1", "mint 0: 6 9 20",
        "unchanged: rest(0, -1) = Illegal", "unchanged: rest(0, 6) = Illegal", "rest(0, 9) = Illegal", "rest(0, MIN) = Illegal",
        "rest(0, MAX) = Illegal", "mint 1: 1", "rest(1, 1) = Illegal", "rest(1, 0) = 0", "mint 2: 300", "rest(2, 300) = Illegal",
        "coin(0, 2) = 4", "rest(0, 1) = 9", "rest(0, 2) = Illegal");
    TEST.sentence("promise 16", "(or there is no COIN)", "unchanged: rest(0, 0) = Illegal", "rest(0, 1) = Illegal",
        "rest(0, -1) = Illegal", "rest(0, MIN) = Illegal", "mint 0: 5", "melt(0, 5) = true", "unchanged: rest(0, 0) = Illegal");
  }

  private static void mirror() {
    TEST.sentence("promise 17", "of each two sums s and last() - s just one can be paid, s from 0 to last()", "mint 0: 2 3",
        "unchanged: mirror(0) = true", "mint 1: 6 9 20", "mirror(1) = true", "mint 2: 299 300", "mirror(2) = true",
        "mint 3: 3 7 8", "unchanged: mirror(3) = false", "mint 4: 4 5 6", "mirror(4) = true");
    // The middle sum s is last() - s itself and can't be paid, else last() could.
    TEST.sentence("promise 17, last() even", "just one can be paid", "mint 0: 3 4 5", "last(0) = 2", "mirror(0) = false",
        "mint 1: 3 5 7", "last(1) = 4", "mirror(1) = false");
    TEST.sentence("promise 17", "false if there is no last() of 0 or more", "unchanged: mirror(0) = false", "mint 0: 1",
        "unchanged: mirror(0) = false", "mint 1: 2", "mirror(1) = false", "mint 2: 300", "mirror(2) = false", "mint 3: 1 2 3",
        "mirror(3) = false", "mint 4: 6 9", "mirror(4) = false");
  }

  private static void needed() {
    TEST.sentence("promise 18", "bit i of the i-th COIN", "unchanged: needed(0) = 0", ALL_NEEDED,
        "unchanged: needed(0) = 4095", "melt(0, 24) = true", "coin(0, 26) = 12", "needed(0) = 2047", "mint 1: 300",
        "needed(1) = 1", "mint 2: 150 300", "needed(2) = 1", "mint 3: 6 9 15 20", "needed(3) = 11", "coin(3, 1) = 5",
        "needed(3) = 1");
    TEST.sentence("term 1", "A COIN is NEEDED, if the others (of the MINT) can't pay it.", "mint 0: 299 300",
        "needed(0) = 3", "mint 1: 2 4", "needed(1) = 1", "mint 2: 4", "needed(2) = 1", "mint 3: 2 3 5", "needed(3) = 3");
  }

  private static void same() {
    TEST.sentence("promise 19", "Whether two MINTS pay the same sums.", "unchanged: same(0, 1) = true",
        "same(0, 0) = true", "mint 0: 300", "same(0, 1) = false", "same(1, 0) = false", "mint 1: 1", "mint 2: 1 299 300",
        "unchanged: same(1, 2) = true", "same(2, 1) = true", "same(2, 2) = true", "mint 3: 6 9 20", "mint 4: 6 9 15 20",
        "same(3, 4) = true", "melt(3, 20) = true", "same(3, 4) = false", "same(4, 3) = false", "mint 5: 299 300",
        "same(0, 5) = false");
  }

  private static void join() {
    TEST.sentence("promise 20", "(a new STATE; it may be a or b)", "mint 0: 4", "mint 1: 6", "join(0, 1, 0) = 2", "mint 0 is: 4 6",
        "mint 1 is: 6", "undo() = true", "mint 0 is: 4", "join(0, 1, 1) = 2", "mint 1 is: 4 6", "mint 0 is: 4",
        "join(1, 1, 1) = 2", "mint 1 is: 4 6", "undo() = true", "undo() = true", "mint 1 is: 6");
    TEST.sentence("promise 20", "the NEEDED COINS .. how many (a COIN is NEEDED, if no others pay it)", FULL_TARGET,
        "join(0, 1, 5) = 0", "mint 5 is:", "mint 0: 300", "join(0, 1, 5) = 1", "mint 5 is: 300", "mint 1: 150 299",
        "join(0, 1, 5) = 2", "mint 5 is: 150 299", "mint 2: 1", "join(0, 2, 5) = 1", "mint 5 is: 1", "mint 0 is: 300");
    TEST.sentence("promise 20, 12 of them", "there would be more than 12", ALL_NEEDED, "mint 1: 26 39 300", FULL_TARGET,
        "join(0, 1, 5) = 12", "mint 5 is: 13 14 15 16 17 18 19 20 21 22 23 24", "join(5, 0, 0) = 12",
        "mint 0 is: 13 14 15 16 17 18 19 20 21 22 23 24");
    TEST.sentence("promise 20", "NONE, and nothing changes: there would be more than 12.", ALL_NEEDED, "mint 1: 25",
        FULL_TARGET, "unchanged: join(0, 1, 5) = NONE", "unchanged: join(1, 0, 0) = NONE", "unchanged: join(0, 1, 1) = NONE",
        FULL_TARGET_IS, "melt(0, 13) = true", "join(0, 1, 5) = 12");
    TEST.sentence("promise 20, 24 of them", "there would be more than 12", "mint 0: 100 101 102 103 104 105 106 107 108 109 110 111",
        "mint 1: 112 113 114 115 116 117 118 119 120 121 122 123", "unchanged: join(0, 1, 2) = NONE");
  }

  private static void part() {
    TEST.sentence("promise 21", "Likewise (it may be a or b)", "mint 0: 4", "mint 1: 6", "part(0, 1, 0) = 1", "mint 0 is: 12",
        "undo() = true", "mint 0 is: 4", "part(0, 1, 1) = 1", "mint 1 is: 12", "part(0, 0, 0) = 1", "mint 0 is: 4");
    TEST.sentence("promise 21, of none", "of all sums that both pay", FULL_TARGET, "mint 0: 3", "part(0, 1, 5) = 0", "mint 5 is:",
        "undo() = true", FULL_TARGET_IS, "part(1, 0, 5) = 0", "mint 5 is:", "part(1, 2, 0) = 0", "mint 0 is:");
    TEST.sentence("promise 21, 12 of them", "Likewise (more than 12)", "mint 0: 10 26 33", "mint 1: 24 29", "part(0, 1, 5) = 12",
        "mint 5 is: 53 72 82 96 111 116 120 130 140 145 174 203", "mint 2: 1", "part(2, 5, 2) = 12", "part(2, 2, 5) = 12");
    TEST.sentence("promise 21, 13 of them", "Likewise (NONE, and nothing changes: more than 12)", "mint 0: 18 34", "mint 1: 7 37",
        FULL_TARGET, "unchanged: part(0, 1, 5) = NONE", "unchanged: part(1, 0, 0) = NONE", "unchanged: part(0, 1, 1) = NONE",
        FULL_TARGET_IS);
    TEST.sentence("promise 21, a COIN of 300", "a COIN above 300 would be needed", "mint 0: 100", "mint 1: 150",
        "part(0, 1, 5) = 1", "mint 5 is: 300", "mint 2: 22 35 56", "mint 3: 24 57", "part(2, 3, 5) = 10",
        "mint 5 is: 57 105 144 168 192 234 240 252 264 300");
    TEST.sentence("promise 21", "NONE also: a COIN above 300 would be needed.", "mint 0: 7", "mint 1: 43", FULL_TARGET,
        "unchanged: part(0, 1, 5) = NONE", "mint 2: 16 36 59", "unchanged: part(2, 1, 5) = NONE",
        "unchanged: part(2, 1, 2) = NONE", "mint 3: 299", "mint 4: 300", "unchanged: part(3, 4, 4) = NONE",
        FULL_TARGET_IS);
    TEST.sentence("promise 21, beside lesser ones", "a COIN above 300 would be needed", "mint 0: 15 37", "mint 1: 10 30",
        "unchanged: part(0, 1, 5) = NONE");
  }

  private static void factor() {
    TEST.sentence("promise 22", "Likewise (it may be a)", "mint 0: 6 9 20", "factor(0, 3, 0) = 2", "mint 0 is: 2 3",
        "undo() = true", "mint 0 is: 6 9 20", FULL_TARGET, "factor(1, 300, 5) = 0", "mint 5 is:", "undo() = true", FULL_TARGET_IS);
    TEST.sentence("promise 22", "of all sums s such that a pays d times s", "mint 0: 300", "factor(0, 1, 5) = 1", "mint 5 is: 300",
        "factor(0, 7, 5) = 1", "mint 5 is: 300", "factor(0, 300, 5) = 1", "mint 5 is: 1", "factor(0, 299, 5) = 1", "mint 5 is: 300",
        "mint 1: 299", "factor(1, 300, 5) = 1", "mint 5 is: 299", "mint 2: 1", "factor(2, 300, 5) = 1", "mint 5 is: 1",
        "mint 3: 6 9 15 20", "factor(3, 1, 3) = 3", "mint 3 is: 6 9 20");
    TEST.sentence("promise 22, 12 of them", "Likewise (more than 12)", "mint 0: 21 31 119", "factor(0, 11, 5) = 12",
        "mint 5 is: 16 17 18 19 20 21 24 25 26 27 28 31");
    TEST.sentence("promise 22, 13 of them", "Likewise (NONE, and nothing changes: more than 12)", "mint 0: 91 97 102", FULL_TARGET,
        "unchanged: factor(0, 10, 5) = NONE", "unchanged: factor(0, 10, 0) = NONE", FULL_TARGET_IS);
    TEST.sentence("promise 22", "IllegalArgumentException: d is not 1 to 300.", "mint 0: 1", "unchanged: factor(0, 0, 1) = Illegal",
        "unchanged: factor(0, 301, 1) = Illegal", "unchanged: factor(0, -1, 0) = Illegal", "unchanged: factor(0, MIN, 1) = Illegal",
        "unchanged: factor(0, MAX, 1) = Illegal", "unchanged: factor(2, 0, 1) = Illegal", "unchanged: factor(2, 301, 1) = Illegal",
        "factor(0, 1, 1) = 1", "factor(0, 300, 1) = 1");
  }

  public static void main(String[] args) {
    divisor();
    manyAndLast();
    gap();
    rest();
    mirror();
    needed();
    same();
    join();
    part();
    factor();
    TEST.end();
  }
}
