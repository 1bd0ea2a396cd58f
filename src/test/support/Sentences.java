import java.util.ArrayList;
import java.util.Arrays;
import java.util.List;

/**
 * Tests single sentences of the document. Each sentence has a run of its own on a new object, written
 * as rows:
 *
 * <pre>
 * mint 0: 1 3 4               these coins come to a mint
 * purse 2 of mint 0: 5 0 20   it is opened and filled, as many of each coin
 * coin(0, 5) = 4              a call and the answer that is due (NoSuch, Illegal: it throws that exception)
 * unchanged: coin(0, 5) = -1  likewise, and nothing changes: no mint, purse, hand, cases, and no state begins
 * mint 0 is: 1 3 4 5          what a mint has
 * purse 2 is: 5*1 0*3 20*4    what a purse has, how many of which value
 * </pre>
 */
final class Sentences {
  private int tested = 0;
  private int broken = 0;
  private List<String> faults = new ArrayList<>();
  private Asked asked = new Asked();
  private List<String> made = new ArrayList<>();

  void sentence(String place, String words, String... rows) {
    faults = new ArrayList<>();
    made = new ArrayList<>();
    asked = new Asked();
    for (String row : rows) {
      check(row);
    }
    tested++;
    if (!faults.isEmpty()) {
      broken++;
      System.out.println(place + ": \"" + words + "\" does not hold:");
      faults.forEach(fault -> System.out.println("  " + fault));
    }
  }

  void sentence(String place, String words, List<String> rows) {
    sentence(place, words, rows.toArray(new String[0]));
  }

  void end() {
    System.out.println(broken == 0 ? tested + " sentences hold" : broken + " of " + tested + " sentences do not hold");
    if (broken != 0) {
      System.exit(1);
    }
  }

  private void check(String row) {
    if (row.startsWith("unchanged: ")) {
      String[] parts = callAndDue(row.substring(11));
      due(parts[0], asked.ask(parts[0]), parts[1]);
      checkUnchanged(parts[0], parts[1]);
    } else if (row.matches("mint [0-7] is:.*")) {
      due(row.substring(0, 6), asked.mint(row.charAt(5) - '0'), row.substring(10));
    } else if (row.matches("purse [0-7] is:.*")) {
      due(row.substring(0, 7), asked.purse(row.charAt(6) - '0'), row.substring(11));
    } else if (row.matches("mint [0-7]: .*")) {
      bringCoins(row.charAt(5), numbers(row));
    } else if (row.matches("purse [0-7] of mint [0-7]: .*")) {
      fillPurse(row.charAt(6), row.charAt(16), numbers(row));
    } else {
      String[] parts = callAndDue(row);
      make(parts[0], parts[1]);
    }
  }

  private static String[] numbers(String row) {
    return row.substring(row.indexOf(": ") + 2).split(" ");
  }

  private static String[] callAndDue(String row) {
    String[] parts = row.split(" = ");
    if (parts.length != 2) {
      throw new AssertionError("no call with an answer: " + row);
    }
    return new String[] {parts[0], parts[1].equals("NONE") ? "-1" : parts[1].replace("_", "")};
  }

  private void make(String call, String want) {
    due(call, asked.ask(call), want);
    made.add(call);
  }

  private void bringCoins(char mint, String[] values) {
    for (int i = 0; i < values.length; i++) {
      make("coin(" + mint + ", " + values[i] + ")", Integer.toString(i + 1));
    }
  }

  private void fillPurse(char purse, char mint, String[] counts) {
    make("open(" + purse + ", " + mint + ")", "done");
    for (int i = 0; i < counts.length; i++) {
      if (!counts[i].equals("0")) {
        make("fill(" + purse + ", " + asked.ask("at(" + mint + ", " + i + ")") + ", " + counts[i] + ")", "0");
      }
    }
  }

  private void due(String what, String got, String want) {
    if (!got.equals(want)) {
      faults.add("after " + made + ": " + what + " answered " + got + ", due is " + want);
    }
  }

  /** All calls so far on a new object, with a state of mint 7 that can be undone and one that can be done again. */
  private Asked again() {
    Asked other = new Asked();
    for (String call : made) {
      other.ask(call);
    }
    for (String call : Arrays.asList("coin(7, 299)", "coin(7, 300)", "undo()")) {
      String answer = other.ask(call);
      if (answer.equals("-1") || answer.equals("false")) {
        throw new AssertionError("mint 7 must be free in a run with an unchanged row");
      }
    }
    return other;
  }

  private void checkUnchanged(String call, String want) {
    Asked with = again();
    Asked without = again();
    due(call + " again", with.ask(call), want);
    due("all that there is, behind " + call + ",", with.all(), without.all());
    // A state that began would end what can be done again, or would have to be undone itself.
    due("redo() behind " + call, with.ask("redo()"), "true");
    due("mint 7 behind " + call + " and redo()", with.mint(7), " 299 300");
    due("undo() behind " + call, with.ask("undo()"), "true");
    due("undo() again behind " + call, with.ask("undo()"), "true");
    due("mint 7 behind " + call + " and undo()", with.mint(7), "");
  }
}
