import java.util.ArrayList;
import java.util.List;

/** The boundary sentences of the head, the terms 1 and 4 and the promises 1 to 6: mints and states. */
public final class MintBoundaryTest {
  private static final String TWELVE = "mint 0: 13 14 15 16 17 18 19 20 21 22 23 24";
  private static final Sentences TEST = new Sentences();

  private static void head() {
    TEST.sentence("constants", "NONE = -1", "coin(8, 1) = " + MintHouse.NONE, "at(0, " + MintHouse.NONE + ") = 0",
        "coin(8, 1) = -1");
    List<String> rows = new ArrayList<>();
    for (int call = 1; call <= 510; call += 2) {
      rows.add("coin(0, " + (1 + call % 300) + ") = 1");
      rows.add("melt(0, " + (1 + call % 300) + ") = true");
    }
    rows.add("coin(0, 300) = 1");
    rows.add("fewest(0, 900) = 3");
    TEST.sentence("head", "An object is used for at most 512 calls after it has been made", rows);
  }

  private static void mints() {
    List<String> rows = new ArrayList<>();
    for (int mint = 0; mint <= 7; mint++) {
      rows.add("coin(" + mint + ", " + (10 + mint) + ") = 1");
    }
    for (int mint = 0; mint <= 7; mint++) {
      rows.add("mint " + mint + " is: " + (10 + mint));
    }
    for (String mint : new String[] {"-1", "8", "MIN", "MAX"}) {
      rows.add("at(" + mint + ", -1) = NoSuch");
    }
    TEST.sentence("term 1", "MINTS 0 to 7", rows);
    TEST.sentence("term 1", "each of up to 12 COINS", TWELVE, "at(0, -1) = 12", "at(0, 11) = 24",
        "unchanged: coin(0, 25) = NONE", "coin(1, 25) = 1");
    TEST.sentence("term 1", "whole values 1 to 300", "coin(0, 1) = 1", "coin(0, 300) = 2", "unchanged: coin(0, 0) = NONE",
        "unchanged: coin(0, 301) = NONE", "mint 0 is: 1 300");
    TEST.sentence("term 1", "no two alike", "mint 0: 5 300", "unchanged: coin(0, 5) = NONE",
        "unchanged: coin(0, 300) = NONE", "coin(1, 5) = 1", "melt(0, 5) = true", "coin(0, 5) = 2");
    TEST.sentence("term 1", "told in rising order", "mint 0: 150 300 1 299 2", "mint 0 is: 1 2 150 299 300");
    TEST.sentence("term 1", "at first none", "at(0, -1) = 0", "at(7, -1) = 0", "at(0, 0) = NoSuch", "at(7, 0) = NoSuch");
    TEST.sentence("term 1", "0 is paid by none.", "fewest(0, 0) = 0", "greedy(0, 0) = 0", "ways(0, 0) = 1",
        "gap(0, 0) = 1", "apart(0, 0) = 0", "span(0, 0, 0) = 0", "pays(0, 0) = 0", "holes(0) = 0", "change(0, 1, 0) = 0",
        "mint 0: 2 3", "fewest(0, 0) = 0", "with(0, 0, 0) = 0", "with(0, 0, 1) = 0", "greedy(0, 0) = 0", "ways(0, 0) = 1",
        "gap(0, 0) = 1", "rest(0, 0) = 0", "apart(0, 0) = 0", "span(0, 0, 0) = 0", "of(0, 0, 0) = true", "hand(0) = 0",
        "hand(1) = 0", "of(0, 0, 1) = false");
  }

  private static void newObject() {
    List<String> rows = new ArrayList<>();
    for (int place = 0; place <= 7; place++) {
      rows.add("mint " + place + " is:");
      rows.add("purse " + place + " is:");
      rows.add("has(" + place + ", -2) = 0");
    }
    TEST.sentence("promise 1", "All MINTS and PURSES without COINS.", rows);
  }

  private static void coin() {
    TEST.sentence("promise 2", "A COIN comes to a MINT (a new STATE): how many it has.", "coin(3, 300) = 1",
        "coin(3, 1) = 2", "mint 3 is: 1 300", "undo() = true", "mint 3 is: 300", "undo() = true", "mint 3 is:",
        "undo() = false", "redo() = true", "redo() = true", "mint 3 is: 1 300");
    TEST.sentence("promise 2", "NONE: no such MINT", "unchanged: coin(-1, 5) = NONE", "unchanged: coin(8, 5) = NONE",
        "unchanged: coin(MIN, 5) = NONE", "unchanged: coin(MAX, 5) = NONE");
    TEST.sentence("promise 2", "NONE: .. value", "mint 0: 7", "unchanged: coin(0, 0) = NONE", "unchanged: coin(0, -1) = NONE",
        "unchanged: coin(0, -7) = NONE", "unchanged: coin(0, 301) = NONE", "unchanged: coin(0, MIN) = NONE",
        "unchanged: coin(0, MAX) = NONE");
    TEST.sentence("promise 2", "NONE: .. it has it", "mint 0: 7 1 300", "unchanged: coin(0, 1) = NONE",
        "unchanged: coin(0, 7) = NONE", "unchanged: coin(0, 300) = NONE");
    TEST.sentence("promise 2", "NONE: .. or 12", TWELVE, "unchanged: coin(0, 1) = NONE", "unchanged: coin(0, 300) = NONE",
        "unchanged: coin(0, 24) = NONE", "melt(0, 13) = true", "coin(0, 1) = 12", "unchanged: coin(0, 13) = NONE",
        "mint 0 is: 1 14 15 16 17 18 19 20 21 22 23 24");
  }

  private static void melt() {
    TEST.sentence("promise 3", "A COIN goes (a new STATE): true.", TWELVE, "melt(0, 24) = true", "melt(0, 13) = true",
        "melt(0, 18) = true", "mint 0 is: 14 15 16 17 19 20 21 22 23", "undo() = true",
        "mint 0 is: 14 15 16 17 18 19 20 21 22 23", "redo() = true", "mint 0 is: 14 15 16 17 19 20 21 22 23",
        "coin(1, 300) = 1", "melt(1, 300) = true", "mint 1 is:");
    TEST.sentence("promise 3", "False: there is none such.", "mint 0: 1 3 300", "mint 1: 2",
        "unchanged: melt(0, 2) = false", "unchanged: melt(2, 1) = false", "unchanged: melt(0, 0) = false",
        "unchanged: melt(0, -1) = false", "unchanged: melt(0, 301) = false", "unchanged: melt(0, MIN) = false",
        "unchanged: melt(0, MAX) = false", "unchanged: melt(-1, 1) = false", "unchanged: melt(8, 1) = false",
        "unchanged: melt(MIN, 1) = false", "unchanged: melt(MAX, 1) = false", "melt(0, 3) = true",
        "unchanged: melt(0, 3) = false");
  }

  private static void at() {
    TEST.sentence("promise 4", "The i-th COIN of a MINT (rising, from 0 on)", "coin(0, 300) = 1", "at(0, 0) = 300",
        "coin(0, 1) = 2", "at(0, 0) = 1", "unchanged: at(0, 1) = 300");
    TEST.sentence("promise 4", "i NONE: how many.", "at(0, -1) = 0", TWELVE, "unchanged: at(0, -1) = 12", "at(1, -1) = 0");
    TEST.sentence("promise 4", "NoSuchElementException: there is none such", "at(0, 0) = NoSuch", TWELVE,
        "at(0, 11) = 24", "unchanged: at(0, 12) = NoSuch", "unchanged: at(0, -2) = NoSuch",
        "unchanged: at(0, MIN) = NoSuch", "unchanged: at(0, MAX) = NoSuch", "melt(0, 24) = true",
        "unchanged: at(0, 11) = NoSuch", "at(1, 0) = NoSuch");
    TEST.sentence("promise 4", "or no such MINT", "mint 0: 1", "unchanged: at(-1, 0) = NoSuch",
        "unchanged: at(8, 0) = NoSuch", "unchanged: at(-1, -1) = NoSuch", "unchanged: at(8, -1) = NoSuch",
        "unchanged: at(MIN, -1) = NoSuch", "unchanged: at(MAX, -1) = NoSuch");
  }

  /** The no such MINT of promise 4 is said of every call; so each has a row for each of its mints. */
  private static void noSuchMintAnywhere() {
    String[] calls = {"fewest(M, 1)", "with(M, 1, 0)", "greedy(M, 1)", "always(M)", "fails(M)", "divisor(M)", "many(M)",
      "last(M)", "gap(M, 0)", "rest(M, 0)", "mirror(M)", "needed(M)", "same(M, 0)", "same(0, M)", "same(M, M)",
      "join(M, 0, 0)", "join(0, M, 0)", "join(0, 0, M)", "part(M, 0, 0)", "part(0, M, 0)", "part(0, 0, M)",
      "factor(M, 1, 0)", "factor(0, 1, M)", "ways(M, 1)", "of(M, 1, 0)", "apart(M, 1)", "stamps(M, 1)", "span(M, 0, 1)",
      "best(1, 1, M)", "open(0, M)"};
    for (String call : calls) {
      List<String> rows = new ArrayList<>(List.of("mint 0: 1 3", "mint 6: 1", "of(0, 3, 1) = true"));
      for (String mint : new String[] {"-1", "8", "MIN", "MAX"}) {
        rows.add("unchanged: " + call.replace("M", mint) + " = NoSuch");
      }
      TEST.sentence("promise 4, " + call, "no such MINT (as everywhere)", rows);
    }
  }

  private static List<String> coins(int from, int to) {
    List<String> rows = new ArrayList<>();
    for (int state = from; state <= to; state++) {
      rows.add(state % 2 == 1 ? "coin(0, " + state + ") = 1" : "melt(0, " + (state - 1) + ") = true");
    }
    return rows;
  }

  /** What mint 0 has in such a state. */
  private static String inState(int state) {
    return state % 2 == 1 ? "mint 0 is: " + state : "mint 0 is:";
  }

  private static List<String> backAndForth(int states, int most) {
    List<String> rows = coins(1, states);
    int undone = Math.min(states, most);
    for (int step = 1; step <= undone; step++) {
      rows.add("undo() = true");
      rows.add(inState(states - step));
    }
    rows.add("undo() = false");
    rows.add(inState(states - undone));
    for (int step = undone - 1; step >= 0; step--) {
      rows.add("redo() = true");
      rows.add(inState(states - step));
    }
    rows.add("redo() = false");
    rows.add(inState(states));
    return rows;
  }

  private static void states() {
    for (int states : new int[] {1, 19, 20, 21, 22, 41, 42, 43, 100, 299}) {
      TEST.sentence("term 4, " + states + " states", "which can be undone (the latest 20)", backAndForth(states, 20));
    }
    List<String> rows = coins(1, 30);
    for (int step = 0; step < 5; step++) {
      rows.add("undo() = true");
    }
    rows.add("coin(1, 9) = 1");
    rows.add("redo() = false");
    for (int step = 0; step < 16; step++) {
      rows.add("undo() = true");
    }
    rows.add("undo() = false");
    rows.add("mint 1 is:");
    rows.add(inState(10));
    TEST.sentence("term 4, a new one behind some undone", "which can be undone (the latest 20)", rows);
    rows = new ArrayList<>(coins(1, 25));
    for (int round = 0; round < 3; round++) {
      for (String call : new String[] {"undo() = true", "redo() = true"}) {
        for (int step = 0; step < 20; step++) {
          rows.add(call);
        }
        rows.add(call.replace("true", "false"));
      }
    }
    rows.add(inState(25));
    TEST.sentence("term 4, again and again", "which can be undone (the latest 20), and done again", rows);
    TEST.sentence("term 4", "STATES: all MINTS and PURSES.", "mint 0: 1", "mint 7: 2", "purse 0 of mint 0: 3",
        "purse 7 of mint 7: 4", "undo() = true", "purse 7 is: 0*2", "purse 0 is: 3*1", "undo() = true", "purse 7 is:",
        "undo() = true", "purse 0 is: 0*1", "undo() = true", "purse 0 is:", "undo() = true", "mint 7 is:", "mint 0 is: 1",
        "undo() = true", "mint 0 is:", "undo() = false");
  }

  /** Each call that says so begins just one state, also if it leaves all as it was. */
  private static void newStates() {
    String[] calls = {"coin(1, 9) = 1", "melt(0, 4) = true", "join(0, 0, 1) = 1", "part(0, 0, 1) = 1",
      "factor(0, 1, 1) = 1", "best(1, 1, 1) = 1", "open(1, 0) = done", "fill(0, 1, 5) = 2", "deal(0, 1, 1) = 1",
      "join(1, 1, 1) = 0", "part(1, 0, 1) = 0", "factor(1, 1, 1) = 0", "open(0, 1) = done", "open(1, 1) = done",
      "fill(0, 1, 2) = 2", "fill(0, 3, 0) = 0", "deal(0, 1, 0) = 0"};
    for (String call : calls) {
      TEST.sentence("term 4, " + call, "and done again, as long as nothing else changed since", "mint 0: 1 3 4",
          "purse 0 of mint 0: 2 0 1", "coin(2, 7) = 1", "undo() = true", call, "redo() = false", "mint 2 is:",
          "undo() = true", "mint 0 is: 1 3 4", "mint 1 is:", "purse 0 is: 2*1 0*3 1*4", "purse 1 is:", "redo() = true",
          "redo() = false", "undo() = true", "undo() = true", "purse 0 is: 2*1 0*3 0*4");
    }
    TEST.sentence("term 4", "STATES: all MINTS and PURSES. (no HAND, no CASES)", "mint 0: 1 3 4", "best(2, 2, 1) = 4",
        "coin(2, 7) = 1", "undo() = true", "of(0, 6, 0) = true", "put(0, 9) = 2", "redo() = true", "mint 2 is: 7",
        "undo() = true", "undo() = true", "cases() = 3", "hand(0) = 9");
  }

  private static void undoAndRedo() {
    TEST.sentence("promise 5", "The latest STATE ahead is there again: true.", "mint 0: 1 3", "undo() = true",
        "mint 0 is: 1", "undo() = true", "mint 0 is:");
    TEST.sentence("promise 5", "False: there is none.", "undo() = false", "redo() = false", "mint 0: 1",
        "undo() = true", "undo() = false", "undo() = false", "mint 0 is:", "redo() = true", "mint 0 is: 1");
    TEST.sentence("promise 6", "What was undone latest is done again: true.", "mint 0: 1 3 5", "undo() = true",
        "undo() = true", "redo() = true", "mint 0 is: 1 3", "redo() = true", "mint 0 is: 1 3 5");
    TEST.sentence("promise 6", "False: there is none.", "redo() = false", "mint 0: 1", "redo() = false", "undo() = true",
        "redo() = true", "redo() = false", "mint 0 is: 1", "undo() = true", "coin(0, 2) = 1", "redo() = false",
        "mint 0 is: 2", "undo() = true", "mint 0 is:", "redo() = true", "mint 0 is: 2");
  }

  public static void main(String[] args) {
    head();
    mints();
    newObject();
    coin();
    melt();
    at();
    noSuchMintAnywhere();
    states();
    newStates();
    undoAndRedo();
    TEST.end();
  }
}
