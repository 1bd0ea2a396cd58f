import java.util.ArrayList;
import java.util.List;

/** The boundary sentences of the terms 2 and 3 and the promises 33 to 39: purses, change and deals. */
public final class PurseBoundaryTest {
  private static final String TWELVE = "mint 0: 10 20 30 40 50 60 70 80 90 100 110 120";
  // Twenty of each of the last four make 20,000 just.
  private static final String TO_THE_BRIM = "mint 0: 1 103 298 299 300";
  private static final Sentences TEST = new Sentences();

  private static void pursesOfTerm() {
    List<String> rows = new ArrayList<>(List.of("mint 0: 5 300"));
    for (int purse = 0; purse <= 7; purse++) {
      rows.add("purse " + purse + " of mint 0: " + (purse + 1) + " " + (20 - purse));
    }
    for (int purse = 0; purse <= 7; purse++) {
      rows.add("purse " + purse + " is: " + (purse + 1) + "*5 " + (20 - purse) + "*300");
    }
    for (String purse : new String[] {"-1", "8", "MIN", "MAX"}) {
      rows.add("has(" + purse + ", -1) = NoSuch");
    }
    TEST.sentence("term 2", "PURSES 0 to 7", rows);
    TEST.sentence("term 2", "at most 12 values", TWELVE, "open(0, 0) = done", "has(0, -1) = 12", "has(0, 11) = 0",
        "has(0, -14) = 120", "has(0, 12) = NoSuch", "has(0, -15) = NoSuch");
    TEST.sentence("term 2", "(told in rising order)", "mint 0: 10 30", "mint 1: 1 20 300", "purse 0 of mint 0: 2 3",
        "purse 1 of mint 1: 1 1 1", "deal(1, 0, 321) = 3", "purse 0 is: 1*1 2*10 1*20 3*30 1*300");
    TEST.sentence("term 2", "0 to 20 of each", "mint 0: 300", "open(0, 0) = done", "fill(0, 300, 20) = 0",
        "unchanged: fill(0, 300, 21) = NONE", "fill(0, 300, 0) = 20", "unchanged: fill(0, 300, -1) = NONE", "purse 0 is: 0*300");
    TEST.sentence("term 2", "20,000 in all at most", TO_THE_BRIM, "purse 0 of mint 0: 0 20 20 20 20", "has(0, -2) = 20_000",
        "unchanged: fill(0, 1, 1) = NONE");
    TEST.sentence("term 2", "at first of no values", "has(0, -1) = 0", "has(7, -1) = 0", "has(0, -2) = 0", "has(0, 0) = NoSuch",
        "has(7, -3) = NoSuch", "fill(0, 1, 1) = NONE", "pays(0, 1) = NONE");
    TEST.sentence("term 2", "(a MINT that changes leaves them as they are)", "mint 0: 1 3 4", "purse 0 of mint 0: 2 1 1",
        "coin(0, 2) = 4", "purse 0 is: 2*1 1*3 1*4", "melt(0, 3) = true", "purse 0 is: 2*1 1*3 1*4", "best(1, 1, 0) = 1",
        "purse 0 is: 2*1 1*3 1*4", "join(1, 1, 0) = 0", "purse 0 is: 2*1 1*3 1*4", "fill(0, 3, 2) = 1", "fill(0, 2, 1) = NONE");
    TEST.sentence("term 2", "It pays s by as many as it has.", "mint 0: 1 3 4", "purse 0 of mint 0: 2 1 1", "pays(0, 6) = 3",
        "pays(0, 8) = 3", "fill(0, 3, 2) = 1", "pays(0, 6) = 2", "fill(0, 4, 0) = 1", "pays(0, 4) = 2", "fill(0, 1, 0) = 2",
        "pays(0, 4) = NONE");
  }

  /** The no such PURSE of promise 33 is said of every call; so each has a row for each of its purses. */
  private static void noSuchPurseAnywhere() {
    String[] calls = {"open(P, 0)", "fill(P, 1, 1)", "has(P, 0)", "has(P, -1)", "has(P, -2)", "has(P, -3)", "pays(P, 0)",
      "holes(P)", "change(P, 0, 0)", "change(0, P, 0)", "deal(P, 0, 0)", "deal(0, P, 0)"};
    for (String call : calls) {
      List<String> rows = new ArrayList<>(List.of("mint 0: 1 3", "purse 0 of mint 0: 1 1"));
      for (String purse : new String[] {"-1", "8", "MIN", "MAX"}) {
        rows.add("unchanged: " + call.replace("P", purse) + " = NoSuch");
      }
      TEST.sentence("promise 33, " + call, "NoSuchElementException: no such PURSE, MINT (as everywhere).", rows);
    }
  }

  private static void open() {
    TEST.sentence("promise 33", "A PURSE has a MINT's COINS, none of each (a new STATE).", "mint 0: 1 300",
        "purse 3 of mint 0: 5 20", "open(3, 0) = done", "purse 3 is: 0*1 0*300", "undo() = true", "purse 3 is: 5*1 20*300",
        "open(3, 7) = done", "purse 3 is:", "has(3, -2) = 0", "undo() = true", "purse 3 is: 5*1 20*300");
    TEST.sentence("promise 33", "no such PURSE, MINT", "mint 0: 1", "unchanged: open(8, 0) = NoSuch",
        "unchanged: open(-1, 0) = NoSuch", "unchanged: open(0, 8) = NoSuch", "unchanged: open(0, -1) = NoSuch", "open(7, 0) = done",
        "open(0, 6) = done", "unchanged: open(8, 8) = NoSuch");
  }

  private static void fill() {
    TEST.sentence("promise 34", "A PURSE has so many of a COIN (a new STATE): what it had.", "mint 0: 1 300", "open(0, 0) = done",
        "fill(0, 300, 20) = 0", "fill(0, 300, 7) = 20", "fill(0, 300, 7) = 7", "fill(0, 300, 0) = 7", "fill(0, 1, 20) = 0",
        "purse 0 is: 20*1 0*300", "undo() = true", "undo() = true", "purse 0 is: 0*1 7*300");
    TEST.sentence("promise 34", "NONE: it has no such value among its COINS", "mint 0: 5 9", "purse 0 of mint 0: 1 0",
        "unchanged: fill(0, 6, 1) = NONE", "unchanged: fill(0, 4, 1) = NONE", "unchanged: fill(0, 10, 0) = NONE",
        "unchanged: fill(0, 0, 1) = NONE", "unchanged: fill(0, -5, 1) = NONE", "unchanged: fill(0, 301, 1) = NONE",
        "unchanged: fill(0, MIN, 1) = NONE", "unchanged: fill(0, MAX, 1) = NONE", "unchanged: fill(1, 5, 1) = NONE",
        "coin(0, 6) = 3", "unchanged: fill(0, 6, 1) = NONE");
    TEST.sentence("promise 34", "many is not 0 to 20", "mint 0: 1", "purse 0 of mint 0: 3", "unchanged: fill(0, 1, 21) = NONE",
        "unchanged: fill(0, 1, -1) = NONE", "unchanged: fill(0, 1, MIN) = NONE", "unchanged: fill(0, 1, MAX) = NONE",
        "fill(0, 1, 20) = 3", "fill(0, 1, 0) = 20");
    TEST.sentence("promise 34", "or it would have more than 20,000 in all", TO_THE_BRIM, "purse 0 of mint 0: 0 20 20 20 20",
        "unchanged: fill(0, 1, 1) = NONE", "unchanged: fill(0, 1, 20) = NONE", "fill(0, 103, 20) = 20", "fill(0, 103, 19) = 20",
        "fill(0, 1, 20) = 0", "unchanged: fill(0, 103, 20) = NONE", "fill(0, 1, 1) = 20", "unchanged: fill(0, 103, 20) = NONE",
        "fill(0, 1, 0) = 1", "fill(0, 103, 20) = 19", "has(0, -2) = 20_000", "open(1, 0) = done", "fill(1, 1, 20) = 0");
  }

  private static void has() {
    TEST.sentence("promise 35", "How many of the i-th of its COINS a PURSE has", "mint 0: 1 300", "purse 0 of mint 0: 0 20",
        "has(0, 0) = 0", "unchanged: has(0, 1) = 20");
    TEST.sentence("promise 35", "i NONE: how many values", "unchanged: has(0, -1) = 0", TWELVE, "open(0, 0) = done",
        "unchanged: has(0, -1) = 12");
    TEST.sentence("promise 35", "-2: all that it has, as a sum", "unchanged: has(0, -2) = 0", TO_THE_BRIM, "open(0, 0) = done",
        "has(0, -2) = 0", "fill(0, 300, 20) = 0", "has(0, -2) = 6000", "purse 1 of mint 0: 0 20 20 20 20",
        "unchanged: has(1, -2) = 20_000");
    TEST.sentence("promise 35", "-3 - i: the value of the i-th", TWELVE, "open(0, 0) = done", "unchanged: has(0, -3) = 10",
        "has(0, -4) = 20", "has(0, -14) = 120");
    TEST.sentence("promise 35", "NoSuchElementException: there is none such.", "unchanged: has(0, 0) = NoSuch",
        "has(0, -3) = NoSuch", "mint 0: 1 3", "purse 0 of mint 0: 4 5", "has(0, 1) = 5", "unchanged: has(0, 2) = NoSuch",
        "has(0, -4) = 3", "unchanged: has(0, -5) = NoSuch", "unchanged: has(0, MIN) = NoSuch", "unchanged: has(0, MAX) = NoSuch",
        "has(0, -2147483647) = NoSuch", "has(0, 12) = NoSuch");
  }

  private static void paysAndHoles() {
    TEST.sentence("promise 36", "The fewest COINS of a PURSE that pay s", "pays(0, 0) = 0", TO_THE_BRIM,
        "purse 0 of mint 0: 0 20 20 20 20", "unchanged: pays(0, 20_000) = 80", "pays(0, 19_897) = 79", "pays(0, 10_000) = 36",
        "pays(0, 0) = 0", "pays(0, 300) = 1");
    TEST.sentence("promise 36", "NONE if it can't.", "unchanged: pays(0, 1) = NONE", TO_THE_BRIM, "purse 0 of mint 0: 0 20 20 20 20",
        "unchanged: pays(0, 19_999) = NONE", "unchanged: pays(0, 20_001) = NONE", "unchanged: pays(0, -1) = NONE",
        "pays(0, MIN) = NONE", "pays(0, MAX) = NONE", "pays(0, 1) = NONE", "purse 1 of mint 0: 2 0 0 0 1", "pays(1, 2) = 2",
        "pays(1, 3) = NONE", "pays(1, 302) = 3", "pays(1, 303) = NONE", "pays(1, -1) = NONE");
    TEST.sentence("promise 37", "How many HOLES a PURSE has. (sums from 0 up to all that it has)", "unchanged: holes(0) = 0",
        "mint 1: 1 300", "open(0, 1) = done", "holes(0) = 0", "fill(0, 300, 20) = 0", "unchanged: holes(0) = 5980",
        "fill(0, 300, 1) = 20", "holes(0) = 299", "fill(0, 1, 20) = 0", "holes(0) = 279", "fill(0, 300, 0) = 1", "holes(0) = 0",
        TO_THE_BRIM, "purse 1 of mint 0: 0 20 20 20 20", "holes(1) = 5088");
  }

  private static void change() {
    TEST.sentence("term 3", "the fewest COINS that move in all (both ways)", "mint 0: 1 3 4", "mint 1: 10",
        "purse 0 of mint 0: 2 1 1", "purse 1 of mint 1: 1", "unchanged: change(1, 0, 6) = 2", "change(1, 0, 1) = 5",
        "change(1, 0, 10) = 1", "change(0, 1, 9) = 4", "change(0, 1, 0) = 0", "change(1, 0, 0) = 0",
        "mint 2: 6 100", "mint 3: 1 90", "purse 2 of mint 2: 2 1", "purse 3 of mint 3: 2 1", "change(2, 3, 10) = 2");
    // Twelve values, twenty of each: no purse has more COINS.
    TEST.sentence("term 3, all COINS of a full PURSE", "the payer gives some of its COINS", "mint 0: 1 2 3 4 5 6 7 8 9 10 11 12",
        "purse 0 of mint 0: 20 20 20 20 20 20 20 20 20 20 20 20", "has(0, -2) = 1560", "pays(0, 1560) = 240", "pays(0, 1559) = 239",
        "pays(0, 240) = 20", "holes(0) = 0", "unchanged: change(0, 1, 1560) = 240", "deal(0, 1, 1560) = 240", "has(0, -2) = 0",
        "purse 1 is: 20*1 20*2 20*3 20*4 20*5 20*6 20*7 20*8 20*9 20*10 20*11 20*12", "deal(1, 0, 240) = 20", "has(0, 11) = 20",
        "has(1, 11) = 0", "has(1, 10) = 20");
    TEST.sentence("promise 38", "NONE if there is none.", "change(0, 1, 0) = 0", "unchanged: change(0, 1, 1) = NONE",
        "mint 0: 1 300", "purse 0 of mint 0: 20 0", "purse 7 of mint 0: 0 1", "change(7, 0, 280) = 21",
        "unchanged: change(7, 0, 279) = NONE", "change(7, 0, 300) = 1", "unchanged: change(7, 0, 301) = NONE",
        "change(1, 7, 1) = NONE", "change(1, 7, 0) = 0", "change(0, 7, 20) = 20", "change(0, 7, 21) = NONE",
        "unchanged: change(7, 0, MAX) = NONE", "change(0, 7, MAX) = NONE", "change(1, 2, MAX) = NONE");
    TEST.sentence("promise 38", "IllegalArgumentException: s is below 0", "mint 0: 1", "purse 0 of mint 0: 5",
        "purse 1 of mint 0: 5", "unchanged: change(0, 1, -1) = Illegal", "unchanged: change(0, 1, MIN) = Illegal",
        "change(2, 3, -1) = Illegal", "change(0, 1, 0) = 0");
    TEST.sentence("promise 38", "or both are one PURSE", "mint 0: 1", "purse 0 of mint 0: 5", "unchanged: change(0, 0, 1) = Illegal",
        "change(0, 0, 0) = Illegal", "change(0, 0, -1) = Illegal", "change(7, 7, 0) = Illegal", "change(0, 7, 1) = 1");
  }

  private static void dealLikeOnes() {
    TEST.sentence("promise 39", "of like ones the payer gives the greatest COIN most often", "mint 0: 2 3 4 5",
        "purse 0 of mint 0: 2 2 2 2", "deal(0, 1, 7) = 2", "purse 0 is: 1*2 2*3 2*4 1*5", "purse 1 is: 1*2 1*5");
    TEST.sentence("promise 39, with what comes back", "of like ones the payer gives the greatest COIN most often", "mint 0: 1 4 10",
        "mint 1: 5", "purse 0 of mint 0: 1 1 1", "purse 1 of mint 1: 1", "deal(0, 1, 5) = 2", "purse 0 is: 1*1 1*4 1*5 0*10",
        "purse 1 is: 0*5 1*10");
    TEST.sentence("promise 39", "then the next greatest, and so on", "mint 0: 2 3 4 5", "purse 0 of mint 0: 2 2 2 2",
        "deal(0, 1, 11) = 3", "purse 0 is: 1*2 2*3 1*4 1*5", "mint 1: 1 3 4 6 50 100", "purse 2 of mint 1: 1 1 1 1 1 1",
        "deal(2, 3, 157) = 4", "purse 3 is: 1*1 1*6 1*50 1*100");
    TEST.sentence("promise 39", "then so the taker", "mint 0: 30", "mint 1: 1 3 4 6 20", "purse 0 of mint 0: 1",
        "purse 1 of mint 1: 1 1 1 1 1", "deal(0, 1, 3) = 4", "purse 1 is: 0*1 1*3 1*4 0*6 0*20 1*30",
        "purse 0 is: 1*1 1*6 1*20 0*30", "undo() = true", "deal(0, 1, 23) = 3", "purse 1 is: 0*1 1*3 1*4 0*6 1*20 1*30");
  }

  private static void deal() {
    TEST.sentence("promise 39", "The CHANGE of s is made (a new STATE", "mint 0: 5", "purse 0 of mint 0: 20", "purse 1 of mint 0: 0",
        "deal(0, 1, 100) = 20", "purse 0 is: 0*5", "purse 1 is: 20*5", "undo() = true", "purse 0 is: 20*5", "purse 1 is: 0*5",
        "deal(0, 1, 0) = 0", "redo() = false", "purse 0 is: 20*5", "undo() = true", "purse 0 is: 20*5", "undo() = true",
        "purse 1 is:");
    TEST.sentence("promise 39", "a value that a PURSE has not among its COINS, but gets, comes to these", "mint 0: 1 200",
        "mint 1: 10", "purse 0 of mint 0: 0 1", "purse 1 of mint 1: 1", "deal(0, 1, 190) = 2", "purse 0 is: 0*1 1*10 0*200",
        "purse 1 is: 0*10 1*200", "deal(1, 7, 200) = 1", "purse 1 is: 0*10 0*200", "purse 7 is: 1*200");
    TEST.sentence("promise 39", "NONE, and nothing changes: there is none", "mint 0: 1 300", "purse 0 of mint 0: 20 0",
        "purse 1 of mint 0: 0 1", "unchanged: deal(1, 0, 279) = NONE", "unchanged: deal(1, 0, 301) = NONE",
        "unchanged: deal(0, 1, 21) = NONE", "unchanged: deal(1, 0, MAX) = NONE", "unchanged: deal(2, 0, 1) = NONE",
        "deal(1, 0, 280) = 21", "purse 0 is: 0*1 1*300", "purse 1 is: 20*1 0*300");
    TEST.sentence("promise 39", "IllegalArgumentException: s is below 0", "mint 0: 1", "purse 0 of mint 0: 5", "purse 1 of mint 0: 5",
        "unchanged: deal(0, 1, -1) = Illegal", "unchanged: deal(0, 1, MIN) = Illegal", "unchanged: deal(2, 3, -1) = Illegal");
    TEST.sentence("promise 39", "or both are one PURSE", "mint 0: 1", "purse 0 of mint 0: 5", "unchanged: deal(0, 0, 1) = Illegal",
        "unchanged: deal(0, 0, 0) = Illegal", "unchanged: deal(0, 0, -1) = Illegal", "unchanged: deal(7, 7, 0) = Illegal",
        "deal(0, 7, 1) = 1");
  }

  private static void dealOfValues() {
    String eleven = "mint 1: 10 20 30 40 50 60 70 80 90 100 110";
    TEST.sentence("promise 39, 12 values of the taker", "a PURSE would have more than 12 values", eleven, "mint 2: 300",
        "open(0, 1) = done", "purse 1 of mint 2: 1", "deal(1, 0, 300) = 1", "has(0, -1) = 12", "has(0, -14) = 300", "has(0, 11) = 1");
    TEST.sentence("promise 39, 13 values of the taker", "-2 likewise: a PURSE would have more than 12 values", TWELVE, "mint 2: 300",
        "open(0, 0) = done", "purse 1 of mint 2: 1", "unchanged: deal(1, 0, 300) = -2", "change(1, 0, 300) = 1", "purse 1 is: 1*300");
    TEST.sentence("promise 39, 12 values of the payer", "a PURSE would have more than 12 values", eleven, "mint 2: 3",
        "open(0, 1) = done", "fill(0, 100, 1) = 0", "purse 1 of mint 2: 1", "deal(0, 1, 97) = 2", "has(0, -1) = 12", "has(0, -3) = 3",
        "has(0, 0) = 1", "has(0, 10) = 0", "purse 1 is: 0*3 1*100");
    TEST.sentence("promise 39, 13 values of the payer", "-2 likewise: a PURSE would have more than 12 values", TWELVE, "mint 2: 3",
        "open(0, 0) = done", "fill(0, 100, 1) = 0", "purse 1 of mint 2: 1", "unchanged: deal(0, 1, 97) = -2", "change(0, 1, 97) = 2",
        "deal(0, 1, 100) = 1");
    TEST.sentence("promise 39, two values too many", "a PURSE would have more than 12 values", eleven, "mint 2: 299 300",
        "open(0, 1) = done", "purse 1 of mint 2: 1 1", "unchanged: deal(1, 0, 599) = -2", "deal(1, 0, 299) = 1",
        "unchanged: deal(1, 0, 300) = -2");
  }

  private static void dealOfOne() {
    TEST.sentence("promise 39, 20 of one of the taker", "20 of one", "mint 0: 5", "purse 0 of mint 0: 2", "purse 1 of mint 0: 19",
        "unchanged: deal(0, 1, 10) = -2", "deal(0, 1, 5) = 1", "purse 1 is: 20*5", "unchanged: deal(0, 1, 5) = -2", "purse 0 is: 1*5");
    TEST.sentence("promise 39, 20 of one of the payer", "20 of one", "mint 0: 3 100", "mint 1: 3", "purse 0 of mint 0: 19 1",
        "purse 1 of mint 1: 2", "unchanged: deal(0, 1, 94) = -2", "deal(0, 1, 97) = 2", "purse 0 is: 20*3 0*100",
        "purse 1 is: 1*3 1*100", "fill(0, 100, 1) = 0", "unchanged: deal(0, 1, 97) = -2");
    // The document tells which of like ones is made; another one that would fit is not.
    TEST.sentence("promise 39, another one of like ones", "20 of one", "mint 0: 2 3 4 5", "purse 0 of mint 0: 1 1 1 1",
        "mint 1: 5", "purse 1 of mint 1: 20", "change(0, 1, 7) = 2", "unchanged: deal(0, 1, 7) = -2");
  }

  private static void dealInAll() {
    String taker = "mint 0: 19 102 298 299 300";
    TEST.sentence("promise 39, 20,000 in all", "or 20,000 in all", taker, "purse 0 of mint 0: 1 20 20 20 20", "has(0, -2) = 19_999",
        "mint 1: 1 2", "purse 1 of mint 1: 1 1", "deal(1, 0, 1) = 1", "has(0, -2) = 20_000", "purse 1 is: 0*1 1*2");
    TEST.sentence("promise 39, 20,001 in all", "-2 likewise: .. or 20,000 in all", taker, "purse 0 of mint 0: 1 20 20 20 20",
        "mint 1: 1 2", "purse 1 of mint 1: 1 1", "unchanged: deal(1, 0, 2) = -2", "unchanged: deal(1, 0, 3) = -2",
        "deal(1, 0, 1) = 1", "unchanged: deal(1, 0, 2) = -2", "deal(0, 1, 19) = 1", "deal(1, 0, 2) = 1");
    // What comes back counts: the taker gets 300 and gives 299, so that it never keeps the 20,299.
    TEST.sentence("promise 39, 20,000 with what comes back", "or 20,000 in all", "mint 0: 19 117 298 299 300",
        "purse 0 of mint 0: 1 20 20 20 19", "has(0, -2) = 19_999", "mint 1: 300", "purse 1 of mint 1: 1",
        "unchanged: deal(1, 0, 2) = -2", "deal(1, 0, 1) = 2", "has(0, -2) = 20_000", "purse 1 is: 1*299 0*300");
  }

  public static void main(String[] args) {
    pursesOfTerm();
    noSuchPurseAnywhere();
    open();
    fill();
    has();
    paysAndHoles();
    change();
    dealLikeOnes();
    deal();
    dealOfValues();
    dealOfOne();
    dealInAll();
    TEST.end();
  }
}
