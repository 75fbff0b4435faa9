import java.util.Map;
import java.util.Random;
import java.util.TreeMap;

/** Long runs of calls, always the same ones, on the desk and on the plain model: every answer is compared. */
public final class ModelTest {
  private static final int OBJECTS = 10000;
  // Nothing is promised beyond MOST_CALLS; what the last step and the closing look take is kept back.
  private static final int MOST_CALLS = 512;
  private static final int DEAREST_STEP = 130;
  private static final int CLOSING_LOOK = 98;
  private static final String[] ODD_LINES = {"\tx", "x", ":a0", " :a0", "%1:%4", "a", "A=a", "a0", "%1:%0", "a0:b", "\t"};

  // The seed makes the runs the same each time.
  private static final Random CHOICE = new Random(20261115L);
  private static final Map<String, Integer> OUTCOMES = new TreeMap<>();

  private final RebuildDesk desk = new RebuildDesk();
  private final PlainModel model = new PlainModel();
  private final StringBuilder told = new StringBuilder();
  private final int stems = 1 + upTo(8);
  private final boolean odd = upTo(6) == 0;
  // A tame run has no loops and gives each file one recipe at most, so that its makes go deep.
  private final boolean tame = upTo(2) == 0;
  private int untold;
  private int calls;

  public static void main(String[] args) {
    for (int i = 0; i < OBJECTS; i++) {
      new ModelTest().compareRun();
    }
    System.out.println(OUTCOMES);
    String[] needed = {
      "read 3", "make 5", "read " + Checks.ARGUMENT, "read " + Checks.STATE, "read " + Checks.UNSUPPORTED,
      "make " + Checks.BOUNDS, "make " + Checks.STATE, "make " + Checks.NO_ELEMENT, "make " + Checks.ARITHMETIC,
      "reason 1", "reason 2", "reason 3"};
    for (String outcome : needed) {
      Checks.due("enough of " + outcome, OUTCOMES.getOrDefault(outcome, 0) >= 20, true);
    }
    Checks.end();
  }

  private static int upTo(int bound) {
    return CHOICE.nextInt(bound);
  }

  private void compareRun() {
    writeAndRead();
    while (calls < MOST_CALLS - DEAREST_STEP - CLOSING_LOOK) {
      step();
    }
    for (int n = 0; n < 32; n++) {
      due("ran(" + n + ")", desk.ran(n), model.ran(n));
      due("reason(" + n + ")", desk.reason(n), model.reason(n));
      due("stampOf(" + n + ")", desk.stampOf(n), model.stampOf(n));
    }
    due("length()", desk.length(), model.length());
    due("fault()", desk.fault(), model.fault());
    Checks.due("no more calls than promised", calls <= MOST_CALLS, true);
  }

  private void step() {
    int choice = upTo(100);
    if (choice < 4) {
      due("erase()", desk.erase(), model.erase());
      writeAndRead();
    } else if (choice < 5) {
      writeText(upTo(3) == 0 ? "x\n" : line());
      compareRead();
    } else if (choice < 7) {
      long chars = CHOICE.nextLong();
      due("write(" + chars + ")", desk.write(chars), model.write(chars));
    } else if (choice < 45) {
      int file = upTo(20) == 0 ? upTo(40) - 4 : file();
      int value = upTo(30) == 0 ? someStamp() : upTo(30);
      due("stamp(" + file + ", " + value + ")", desk.stamp(file, value), model.stamp(file, value));
    } else if (choice < 65) {
      compareMake(upTo(20) == 0 ? upTo(40) - 4 : file());
    } else {
      compareAnswer(upTo(40) - 4);
    }
  }

  private int someStamp() {
    int[] some = {-1, 1000000000, 1000000001, 999999999, 999999997, Integer.MIN_VALUE, Integer.MAX_VALUE};
    return some[upTo(some.length)];
  }

  private int file() {
    return 4 * upTo(stems) + upTo(4);
  }

  private void compareRead() {
    String got = Checks.read(desk);
    due("read()", got, model.read());
    due("fault()", desk.fault(), model.fault());
    OUTCOMES.merge("read " + got, 1, Integer::sum);
    for (int n = 0; n < 4 * stems; n++) {
      due("sources(" + n + ")", desk.sources(n), model.sources(n));
      due("recipe(" + n + ")", desk.recipe(n), model.recipe(n));
    }
  }

  private void compareMake(int goal) {
    String got = Checks.make(desk, goal);
    due("make(" + goal + ")", got, model.make(goal));
    OUTCOMES.merge("make " + got, 1, Integer::sum);
    boolean more = true;
    for (int i = 0; i <= 32 && more; i++) {
      int file = model.ran(i);
      more = file != -1;
      due("ran(" + i + ")", desk.ran(i), file);
      if (more) {
        OUTCOMES.merge("reason " + model.reason(file), 1, Integer::sum);
        due("reason(" + file + ")", desk.reason(file), model.reason(file));
        due("stampOf(" + file + ")", desk.stampOf(file), model.stampOf(file));
      }
    }
  }

  private void compareAnswer(int n) {
    switch (upTo(7)) {
      case 0 -> due("ran(" + n + ")", desk.ran(n), model.ran(n));
      case 1 -> due("reason(" + n + ")", desk.reason(n), model.reason(n));
      case 2 -> due("stampOf(" + n + ")", desk.stampOf(n), model.stampOf(n));
      case 3 -> due("sources(" + n + ")", desk.sources(n), model.sources(n));
      case 4 -> due("recipe(" + n + ")", desk.recipe(n), model.recipe(n));
      case 5 -> due("length()", desk.length(), model.length());
      default -> due("fault()", desk.fault(), model.fault());
    }
  }

  private void writeAndRead() {
    StringBuilder text = new StringBuilder();
    int lines = upTo(16);
    untold = 4 * stems;
    for (int i = 0; i < lines; i++) {
      text.append(line());
    }
    if (odd && upTo(3) == 0 && text.length() > 0) {
      text.setCharAt(upTo(text.length()), "a0A$=:% \t\n3h".charAt(upTo(12)));
    }
    writeText(text.toString());
    compareRead();
  }

  private void writeText(String text) {
    for (int from = 0; from < text.length(); from += 8) {
      long chars = Checks.pack(text.substring(from, Math.min(from + 8, text.length())));
      due("write(" + chars + ")", desk.write(chars), model.write(chars));
    }
  }

  private String line() {
    int choice = upTo(20);
    if (choice == 0) {
      return " ".repeat(upTo(3)) + "\n";
    }
    if (choice == 1 && odd) {
      return ODD_LINES[upTo(ODD_LINES.length)] + "\n";
    }
    if (tame) {
      return tameLine(choice);
    }
    if (choice < 5) {
      return (char) ('A' + upTo(5)) + "=" + phrase(upTo(4)) + "\n";
    }
    if (choice < 9) {
      return "%" + upTo(4) + ":%" + upTo(4) + "\n\tx\n";
    }
    String targets = phrase(1 + upTo(2));
    return (targets.isBlank() ? "a0" : targets) + ":" + phrase(upTo(4)) + "\n" + "\ty\n".repeat(upTo(3));
  }

  private String tameLine(int choice) {
    if (choice < 7) {
      int kind = 1 + upTo(3);
      return "%" + kind + ":%" + upTo(kind) + "\n\tx\n";
    }
    untold = Math.max(untold - 1 - upTo(2), 0);
    StringBuilder line = new StringBuilder(Checks.name(untold)).append(':');
    int parts = untold == 0 ? 0 : upTo(4);
    for (int i = 0; i < parts; i++) {
      line.append(Checks.name(Math.max(untold - 1 - upTo(6), 0)));
    }
    return line + "\n" + (untold > 0 && upTo(5) > 0 ? "\ty\n" : "");
  }

  private String phrase(int parts) {
    StringBuilder phrase = new StringBuilder();
    for (int i = 0; i < parts; i++) {
      int choice = upTo(10);
      if (choice < 2) {
        phrase.append(' ');
      }
      if (choice < 8) {
        phrase.append(Checks.name(file()));
      } else {
        phrase.append('$').append((char) ('A' + upTo(6)));
      }
    }
    return phrase.toString();
  }

  private void due(String call, Object got, Object want) {
    calls++;
    told.append(call).append(' ');
    if (!want.equals(got)) {
      Checks.due(told + "; " + call, got, want);
    }
  }
}
