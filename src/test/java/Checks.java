import java.util.NoSuchElementException;

/** What the tests share: putting texts in, comparing answers, telling which exception came. */
final class Checks {
  static final String ARGUMENT = "IllegalArgumentException";
  static final String STATE = "IllegalStateException";
  static final String UNSUPPORTED = "UnsupportedOperationException";
  static final String BOUNDS = "IndexOutOfBoundsException";
  static final String NO_ELEMENT = "NoSuchElementException";
  static final String ARITHMETIC = "ArithmeticException";

  private static int wrong = 0;
  private static String sentence = "";

  private Checks() {
  }

  /** The words of the document that the checks from here on stand for: a wrong answer is told with them. */
  static void sentence(String words) {
    sentence = '[' + words + "] ";
  }

  static void due(String what, Object got, Object want) {
    if (!want.equals(got)) {
      wrong++;
      System.out.println(sentence + what + " answered " + got + ", due is " + want);
    }
  }

  static void end() {
    System.out.println(wrong == 0 ? "all answers are as due" : wrong + " answers are not as due");
    if (wrong != 0) {
      System.exit(1);
    }
  }

  static long pack(String characters) {
    long chars = 0;
    for (int i = 0; i < characters.length(); i++) {
      chars |= (long) characters.charAt(i) << (8 * i);
    }
    return chars;
  }

  static void write(RebuildDesk desk, String text) {
    for (int from = 0; from < text.length(); from += 8) {
      String piece = text.substring(from, Math.min(from + 8, text.length()));
      due("write of " + shown(piece), desk.write(pack(piece)), piece.length());
    }
  }

  static RebuildDesk deskWith(String text) {
    RebuildDesk desk = new RebuildDesk();
    write(desk, text);
    return desk;
  }

  static RebuildDesk deskThatRead(String text) {
    RebuildDesk desk = deskWith(text);
    String answer = read(desk);
    if (!answer.matches("[0-9]+")) {
      due("read() of " + shown(text), answer, "a number of rules");
    }
    return desk;
  }

  /** The answer of read(), or the name of what it threw. */
  static String read(RebuildDesk desk) {
    try {
      return Integer.toString(desk.read());
    } catch (RuntimeException e) {
      return nameOf(e);
    }
  }

  /** The answer of make(goal), or the name of what it threw. */
  static String make(RebuildDesk desk, int goal) {
    try {
      return Integer.toString(desk.make(goal));
    } catch (RuntimeException e) {
      return nameOf(e);
    }
  }

  static void readsAs(String text, int rules) {
    RebuildDesk desk = deskWith(text);
    due("read() of " + shown(text), read(desk), Integer.toString(rules));
    due("fault() for " + shown(text), desk.fault(), 0);
  }

  static void readFails(String text, String exception, int line) {
    RebuildDesk desk = deskWith(text);
    due("read() of " + shown(text), read(desk), exception);
    due("fault() for " + shown(text), desk.fault(), line);
  }

  static void stamp(RebuildDesk desk, String name, int value) {
    due("stamp of " + name, desk.stamp(file(name), value), true);
  }

  static void makes(RebuildDesk desk, String goal, String runs) {
    int count = runs.isEmpty() ? 0 : runs.split(" ").length;
    due("make of " + goal, make(desk, file(goal)), Integer.toString(count));
    due("the runs for " + goal, runs(desk), runs);
  }

  static void makeFails(RebuildDesk desk, String goal, String exception) {
    due("make of " + goal, make(desk, file(goal)), exception);
  }

  /** All that can be asked without a change, in 162 calls; fault() stands first. */
  static String state(RebuildDesk desk) {
    StringBuilder state = new StringBuilder();
    state.append(desk.fault()).append("; length ").append(desk.length());
    for (int n = 0; n < 32; n++) {
      state.append("; ").append(name(n)).append(' ').append(desk.sources(n)).append(' ').append(desk.recipe(n));
      state.append(' ').append(desk.stampOf(n)).append(' ').append(desk.reason(n)).append(' ').append(desk.ran(n));
    }
    return state.toString();
  }

  static String stateWithoutFault(RebuildDesk desk) {
    String state = state(desk);
    return state.substring(state.indexOf(';'));
  }

  /** The files that ran, in their order, with the reason of each: "a1/1 b1/2". */
  static String runs(RebuildDesk desk) {
    StringBuilder runs = new StringBuilder();
    for (int i = 0; i < 33 && desk.ran(i) != -1; i++) {
      int file = desk.ran(i);
      runs.append(i == 0 ? "" : " ").append(name(file)).append('/').append(desk.reason(file));
    }
    return runs.toString();
  }

  static int file(String name) {
    return 4 * (name.charAt(0) - 'a') + name.charAt(1) - '0';
  }

  static String name(int file) {
    return "" + (char) ('a' + file / 4) + (char) ('0' + file % 4);
  }

  static int files(String... names) {
    int set = 0;
    for (String name : names) {
      set |= 1 << file(name);
    }
    return set;
  }

  static String shown(String text) {
    return '"' + text.replace("\n", "\\n").replace("\t", "\\t") + '"';
  }

  private static String nameOf(RuntimeException e) {
    if (e.getClass() == NoSuchElementException.class) {
      return NO_ELEMENT;
    }
    return e.getClass().getSimpleName();
  }
}
