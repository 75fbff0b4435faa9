/** The sentences of promises 9 to 13 that name an edge: a test for each. */
public final class EdgesOfMakeTest {
  private static final int[] NO_FILES = {-1, 32, 33, -32, -31, 63, 64, 256, Integer.MIN_VALUE, Integer.MIN_VALUE + 31, Integer.MAX_VALUE};
  // All 32 files in one chain: patterns within each stem, a rule from one stem to the next; a3 is its end.
  private static final String CHAIN = "%1:%0\n\t\n%2:%1\n\t\n%3:%2\n\t\na0:b3\n\t\nb0:c3\n\t\nc0:d3\n\t\nd0:e3\n\t\n"
      + "e0:f3\n\t\nf0:g3\n\t\ng0:h3\n\t\nh0:\n\t\n";

  public static void main(String[] args) {
    stampOfNoFile();
    stampOutOfRange();
    stampOfEachFile();
    stampOfAnswers();
    allOutOfDate();
    leastFirst();
    wholeFoundationFirst();
    greatestOfAll();
    firstStampOfAll();
    notAnewInBetween();
    howManyWereRun();
    goalThatIsNoFile();
    inItsOwnFoundation();
    noRecipeAndNotThere();
    stampTooGreat();
    stampTooGreatForAll();
    firstThatApplies();
    ranFromZero();
    ranIfThereIsNone();
    ranInTheLatest();
    reasonInTheLatest();
    reasonIfNotRun();
    reasonOfNoFile();
    Checks.end();
  }

  private static void stampOfNoFile() {
    Checks.sentence("false (and nothing changes) if n is not 0 .. 31");
    RebuildDesk desk = Checks.deskThatRead("a0:\n\tx\n");
    Checks.makes(desk, "a0", "a0/1");
    for (int file = 0; file < 32; file++) {
      Checks.due("stamp(" + file + ", ..)", desk.stamp(file, 50 + file), true);
    }
    String before = Checks.state(desk);
    for (int n : NO_FILES) {
      Checks.due("stamp(" + n + ", 7)", desk.stamp(n, 7), false);
    }
    Checks.due("stamp(32, -1)", desk.stamp(32, -1), false);
    Checks.due("all answers behind them", Checks.state(desk), before);
  }

  private static void stampOutOfRange() {
    Checks.sentence("false (and nothing changes) if n is not 0 .. 31 or t is not 0 .. 1000000000");
    int[] wrong = {-1, 1000000001, -1000000000, Integer.MIN_VALUE, Integer.MAX_VALUE};
    int[] right = {1, 0, 999999999, 1000000000};
    int[] files = {0, 17, 31};
    for (int file : files) {
      RebuildDesk desk = new RebuildDesk();
      desk.stamp(file, 5);
      String before = Checks.state(desk);
      for (int t : wrong) {
        Checks.due("stamp(" + file + ", " + t + ")", desk.stamp(file, t), false);
      }
      Checks.due("all answers behind them", Checks.state(desk), before);
      for (int t : right) {
        Checks.due("stamp(" + file + ", " + t + ")", desk.stamp(file, t), true);
        Checks.due("stampOf(" + file + ")", desk.stampOf(file), t);
        Checks.due("stamp(" + file + ", 1000000001)", desk.stamp(file, 1000000001), false);
        Checks.due("stampOf(" + file + ") behind it", desk.stampOf(file), t);
      }
    }
  }

  private static void stampOfEachFile() {
    Checks.sentence("The stamp of file n becomes t");
    for (int file = 0; file < 32; file++) {
      RebuildDesk desk = new RebuildDesk();
      Checks.due("stamp(" + file + ", 9)", desk.stamp(file, 9), true);
      for (int n = 0; n < 32; n++) {
        Checks.due("stampOf(" + n + ")", desk.stampOf(n), n == file ? 9 : 0);
      }
      Checks.due("stamp(" + file + ", 0)", desk.stamp(file, 0), true);
      Checks.due("stampOf(" + file + ")", desk.stampOf(file), 0);
    }
  }

  private static void stampOfAnswers() {
    Checks.sentence("The stamp of file n; -1 if n is not 0 .. 31.");
    RebuildDesk desk = new RebuildDesk();
    for (int n = 0; n < 32; n++) {
      Checks.due("stampOf(" + n + ") at first", desk.stampOf(n), 0);
      desk.stamp(n, 1000000000 - n);
      Checks.due("stampOf(" + n + ")", desk.stampOf(n), 1000000000 - n);
    }
    for (int n : NO_FILES) {
      Checks.due("stampOf(" + n + ")", desk.stampOf(n), -1);
    }
  }

  private static void allOutOfDate() {
    Checks.sentence("the recipes of all files that are out of date among it and its foundation are run");
    RebuildDesk desk = Checks.deskThatRead("a0:b0 c0\n\tx\nb0:d0\n\tx\nc0:d0\n\tx\nd0:\n\tx\ne0:a0\n\tx\nf0:\n\tx\n");
    Checks.makes(desk, "d0", "d0/1");
    Checks.makes(desk, "b0", "b0/1");
    Checks.makes(desk, "a0", "c0/1 a0/1");
    Checks.due("what stands above the goal is not run", desk.stampOf(16), 0);
    Checks.due("what stands beside the goal is not run", desk.stampOf(20), 0);
    Checks.makes(desk, "e0", "e0/1");
  }

  private static void leastFirst() {
    Checks.sentence("each time, of those not yet run, the one with the least number");
    RebuildDesk desk = Checks.deskThatRead("h3:a0 h2 d1 b0\n\tx\na0:g0\n\tx\nb0:\n\tx\nd1:\n\tx\ng0:\n\tx\nh2:\n\tx\n");
    // a0 has the least number once g0 is run: it comes before h2, which could be run all the time.
    Checks.makes(desk, "h3", "b0/1 d1/1 g0/1 a0/1 h2/1 h3/1");
    Checks.due("the stamp of a0", desk.stampOf(0), 4);
  }

  private static void wholeFoundationFirst() {
    Checks.sentence("in whose foundation there is none that is not yet run");
    // a0 comes to h0 by b0 and c0, which are not run themselves.
    RebuildDesk desk = Checks.deskThatRead("a0:b0\n\tx\nb0:c0\nc0:h0\nh0:\n\tx\ng0:a0\n\tx\n");
    Checks.stamp(desk, "b0", 1);
    Checks.stamp(desk, "c0", 1);
    Checks.makes(desk, "a0", "h0/1 a0/1");
    Checks.makes(desk, "g0", "g0/1");
  }

  private static void greatestOfAll() {
    Checks.sentence("the first one m + 1, the next one m + 2 and so on, where m is the greatest stamp of all 32 files before");
    for (int file = 0; file < 32; file++) {
      RebuildDesk desk = Checks.deskThatRead("a0:b0\n\tx\nb0:c0\n\tx\nc0:\n\tx\n");
      desk.stamp(file, 100);
      Checks.due("make with the greatest at " + file, Checks.make(desk, 0), file == 8 ? "2" : "3");
      int runs = 0;
      for (int i = 0; i < 3 && desk.ran(i) != -1; i++) {
        Checks.due("new stamp " + i, desk.stampOf(desk.ran(i)), 101 + i);
        runs++;
      }
      Checks.due("a new stamp was seen", runs > 0, true);
    }
  }

  private static void firstStampOfAll() {
    Checks.sentence("the first one m + 1");
    RebuildDesk desk = Checks.deskThatRead("a0:b0\n\tx\nb0:\n\tx\n");
    Checks.makes(desk, "a0", "b0/1 a0/1");
    Checks.due("stamps with m = 0", desk.stampOf(4) + " " + desk.stampOf(0), "1 2");
    Checks.stamp(desk, "a0", 0);
    Checks.makes(desk, "a0", "a0/1");
    Checks.due("the stamp with m = 1", desk.stampOf(0), 2);
    // The file itself has the greatest stamp before.
    Checks.stamp(desk, "a0", 40);
    Checks.stamp(desk, "b0", 0);
    Checks.makes(desk, "a0", "b0/1 a0/2");
    Checks.due("stamps with m = 40", desk.stampOf(4) + " " + desk.stampOf(0), "41 42");
  }

  private static void notAnewInBetween() {
    Checks.sentence("(What is out of date, and the graph, are not worked out anew in between.)");
    RebuildDesk desk = Checks.deskThatRead("a0:b0\n\tx\nb0:c0\n\tx\n%1:%0\n\tx\n");
    Checks.stamp(desk, "c0", 3);
    Checks.stamp(desk, "b0", 2);
    Checks.stamp(desk, "a0", 9);
    Checks.stamp(desk, "a1", 9);
    // Behind the run of b0 its stamp is greater than that of a0, which would be reason 3.
    Checks.makes(desk, "a1", "b0/3 a0/2 a1/2");
    Checks.makes(desk, "a1", "");
  }

  private static void howManyWereRun() {
    Checks.sentence("How many were run.");
    RebuildDesk desk = Checks.deskThatRead(CHAIN);
    Checks.due("make of all", Checks.make(desk, 3), "32");
    for (int i = 0; i < 32; i++) {
      int file = 28 - 4 * (i / 4) + i % 4;
      Checks.due("ran(" + i + ")", desk.ran(i), file);
      Checks.due("stampOf(" + file + ")", desk.stampOf(file), i + 1);
    }
    Checks.due("make of none", Checks.make(desk, 3), "0");
    Checks.stamp(desk, "a3", 0);
    Checks.due("make of one", Checks.make(desk, 3), "1");
    Checks.due("make of a file without a rule", Checks.make(Checks.deskThatRead("\n"), 3), Checks.NO_ELEMENT);
  }

  private static void goalThatIsNoFile() {
    Checks.sentence("IndexOutOfBoundsException if goal is not 0 .. 31");
    RebuildDesk desk = Checks.deskThatRead("a0 h3:\n\tx\n");
    for (int n : NO_FILES) {
      Checks.due("make(" + n + ")", Checks.make(desk, n), Checks.BOUNDS);
    }
    Checks.due("stamps behind them", desk.stampOf(0) + desk.stampOf(31), 0);
    Checks.due("make(0)", Checks.make(desk, 0), "1");
    Checks.due("make(31)", Checks.make(desk, 31), "1");
  }

  private static void inItsOwnFoundation() {
    Checks.sentence("IllegalStateException if goal, or a file of its foundation, is in its own foundation");
    RebuildDesk desk = Checks.deskThatRead("a0:a0\n\tx\nb0:c0\nc0:d0\n\tx\nd0:c0\ne0:d0\nf0:b0 g0\n\tx\ng0:\n\tx\n");
    for (int file = 0; file < 32; file++) {
      desk.stamp(file, 5);
    }
    String[] wrong = {"a0", "b0", "c0", "d0", "e0", "f0"};
    for (String goal : wrong) {
      Checks.makeFails(desk, goal, Checks.STATE);
    }
    // The ring elsewhere is no concern of these.
    Checks.makes(desk, "g0", "");
    Checks.makes(desk, "h3", "");
    Checks.stamp(desk, "g0", 0);
    Checks.makes(desk, "g0", "g0/1");
    desk = Checks.deskThatRead("h3:h3\n");
    Checks.makeFails(desk, "h3", Checks.STATE);
  }

  private static void noRecipeAndNotThere() {
    Checks.sentence("NoSuchElementException if goal, or a file of its foundation, has no recipe and the stamp 0");
    RebuildDesk desk = Checks.deskThatRead("a0:b0\n\tx\nb0:c0\n\tx\nc0:d0\nd0:\ng0:e0\n");
    Checks.makeFails(desk, "h3", Checks.NO_ELEMENT);
    Checks.makeFails(desk, "d0", Checks.NO_ELEMENT);
    Checks.makeFails(desk, "a0", Checks.NO_ELEMENT);
    Checks.stamp(desk, "d0", 1);
    Checks.makeFails(desk, "a0", Checks.NO_ELEMENT);
    Checks.makeFails(desk, "c0", Checks.NO_ELEMENT);
    Checks.stamp(desk, "c0", 1);
    Checks.makes(desk, "a0", "b0/1 a0/1");
    // All else is up to date, and yet a file far down is gone.
    Checks.stamp(desk, "d0", 0);
    Checks.makeFails(desk, "a0", Checks.NO_ELEMENT);
    Checks.stamp(desk, "d0", 1);
    Checks.makes(desk, "a0", "");
  }

  private static void stampTooGreat() {
    Checks.sentence("ArithmeticException if a new stamp would be above 1000000000");
    // m, how many are to be run, and whether they may.
    int[][] cases = {{999999999, 1, 1}, {1000000000, 1, 0}, {999999998, 2, 1}, {999999999, 2, 0}, {1000000000, 2, 0},
      {1000000000, 0, 1}, {999999999, 0, 1}};
    for (int[] row : cases) {
      RebuildDesk desk = Checks.deskThatRead("a0:b0\n\tx\nb0:\n\tx\n");
      Checks.stamp(desk, "a0", row[1] > 0 ? 0 : 2);
      Checks.stamp(desk, "b0", row[1] > 1 ? 0 : 1);
      Checks.stamp(desk, "h3", row[0]);
      String due = row[2] == 1 ? Integer.toString(row[1]) : Checks.ARITHMETIC;
      Checks.due("make of " + row[1] + " with m = " + row[0], Checks.make(desk, 0), due);
      boolean ran = row[2] == 1 && row[1] > 0;
      Checks.due("the stamp of a0 behind it", desk.stampOf(0), ran ? 1000000000 : row[1] > 0 ? 0 : 2);
      Checks.due("the stamp of b0 behind it", desk.stampOf(4), row[1] < 2 ? 1 : ran ? 999999999 : 0);
    }
  }

  private static void stampTooGreatForAll() {
    Checks.sentence("ArithmeticException if a new stamp would be above 1000000000");
    RebuildDesk desk = Checks.deskThatRead(CHAIN);
    // h0 is not there, so all 32 are run: 31 by reason 2.
    for (int file = 0; file < 32; file++) {
      desk.stamp(file, 999999969);
    }
    Checks.stamp(desk, "h0", 0);
    String before = Checks.state(desk);
    Checks.makeFails(desk, "a3", Checks.ARITHMETIC);
    Checks.due("all answers behind it", Checks.state(desk), before);
    for (int file = 0; file < 32; file++) {
      desk.stamp(file, 999999968);
    }
    Checks.stamp(desk, "h0", 0);
    Checks.due("make of 32 up to the greatest stamp", Checks.make(desk, 3), "32");
    Checks.due("the first new stamp", desk.stampOf(28), 999999969);
    Checks.due("the last new stamp", desk.stampOf(3), 1000000000);
  }

  private static void firstThatApplies() {
    Checks.sentence("Throws, the first that applies");
    // a0 has a ring, a missing file and a stamp too great below it, b0 the last two, c0 the last one.
    RebuildDesk desk = Checks.deskThatRead("a0:b0 d0\n\tx\nb0:c0 e0\n\tx\nc0:\n\tx\nd0:d0\n");
    Checks.stamp(desk, "h3", 1000000000);
    Checks.due("make(32)", Checks.make(desk, 32), Checks.BOUNDS);
    Checks.makeFails(desk, "a0", Checks.STATE);
    Checks.makeFails(desk, "d0", Checks.STATE);
    Checks.makeFails(desk, "b0", Checks.NO_ELEMENT);
    Checks.makeFails(desk, "c0", Checks.ARITHMETIC);
    Checks.stamp(desk, "h3", 999999999);
    Checks.makes(desk, "c0", "c0/1");
  }

  private static void ranFromZero() {
    Checks.sentence("The file whose recipe was the i-th (from 0) that was run");
    RebuildDesk desk = Checks.deskThatRead("a0:h3 c1\n\tx\nh3:\n\tx\nc1:\n\tx\n");
    Checks.due("make", Checks.make(desk, 0), "3");
    Checks.due("ran(0)", desk.ran(0), Checks.file("c1"));
    Checks.due("ran(1)", desk.ran(1), Checks.file("h3"));
    Checks.due("ran(2)", desk.ran(2), Checks.file("a0"));
    Checks.due("ran(3)", desk.ran(3), -1);
  }

  private static void ranIfThereIsNone() {
    Checks.sentence("-1 if there is none");
    RebuildDesk desk = Checks.deskThatRead(CHAIN);
    Checks.due("ran(0) before any make()", desk.ran(0), -1);
    Checks.due("make of four", Checks.make(desk, 31), "4");
    int[] none = {-1, 4, 5, 31, 32, 33, Integer.MIN_VALUE, Integer.MAX_VALUE};
    for (int i : none) {
      Checks.due("ran(" + i + ") of four", desk.ran(i), -1);
    }
    Checks.due("ran(3) of four", desk.ran(3), 31);
    Checks.due("make of none", Checks.make(desk, 31), "0");
    Checks.due("ran(0) of none", desk.ran(0), -1);
    Checks.due("ran(3) of none", desk.ran(3), -1);
    Checks.stamp(desk, "h0", 0);
    Checks.due("make of 32", Checks.make(desk, 3), "32");
    Checks.due("ran(31) of 32", desk.ran(31), 3);
    int[] noneOfAll = {-1, 32, 33, 64, Integer.MIN_VALUE, Integer.MAX_VALUE};
    for (int i : noneOfAll) {
      Checks.due("ran(" + i + ") of 32", desk.ran(i), -1);
    }
  }

  private static void ranInTheLatest() {
    Checks.sentence("in the latest make() that threw nothing; -1 if there is none");
    RebuildDesk desk = Checks.deskThatRead("a0:b0\n\tx\nb0:\n\tx\nc0:\n\tx\nd0:d0\n");
    int[] wrong = {32, Checks.file("d0"), Checks.file("e0")};
    for (int goal : wrong) {
      Checks.make(desk, goal);
      Checks.due("ran(0) when all make() threw", desk.ran(0), -1);
    }
    Checks.makes(desk, "a0", "b0/1 a0/1");
    for (int goal : wrong) {
      Checks.make(desk, goal);
      Checks.due("ran behind make(" + goal + ")", desk.ran(0) + " " + desk.ran(1) + " " + desk.ran(2), "4 0 -1");
    }
    Checks.stamp(desk, "h3", 1000000000);
    Checks.makeFails(desk, "c0", Checks.ARITHMETIC);
    Checks.due("ran behind it", desk.ran(0) + " " + desk.ran(1), "4 0");
    Checks.stamp(desk, "h3", 0);
    desk.erase();
    Checks.write(desk, "c0:\n\tx\n");
    Checks.read(desk);
    Checks.due("ran behind a read()", desk.ran(0) + " " + desk.ran(1), "4 0");
    Checks.makes(desk, "c0", "c0/1");
    Checks.due("ran(1) behind a shorter one", desk.ran(1), -1);
  }

  private static void reasonInTheLatest() {
    Checks.sentence("The reason for which file n was run in the latest make() that threw nothing");
    RebuildDesk desk = Checks.deskThatRead("a0:b0\n\tx\nb0:c0\n\tx\nd0:d0\n");
    Checks.stamp(desk, "c0", 1);
    Checks.makes(desk, "a0", "b0/1 a0/1");
    Checks.stamp(desk, "c0", 9);
    Checks.due("reasons behind a stamp", desk.reason(4) + " " + desk.reason(0), "1 1");
    int[] wrong = {-1, Checks.file("d0"), Checks.file("e0")};
    for (int goal : wrong) {
      Checks.make(desk, goal);
      Checks.due("reasons behind make(" + goal + ")", desk.reason(4) + " " + desk.reason(0), "1 1");
    }
    Checks.makes(desk, "a0", "b0/3 a0/2");
    Checks.stamp(desk, "b0", 50);
    Checks.makes(desk, "a0", "a0/3");
    Checks.due("the reason of b0 is that of the latest", desk.reason(4), 0);
  }

  private static void reasonIfNotRun() {
    Checks.sentence("0 if it was not run then or there was none");
    RebuildDesk desk = Checks.deskThatRead("a0:b0\n\tx\nb0:\n\tx\nc0:\n\tx\n");
    for (int n = 0; n < 32; n++) {
      Checks.due("reason(" + n + ") before any make()", desk.reason(n), 0);
    }
    Checks.make(desk, 32);
    Checks.due("reason(0) when all make() threw", desk.reason(0), 0);
    Checks.makes(desk, "a0", "b0/1 a0/1");
    for (int n = 0; n < 32; n++) {
      Checks.due("reason(" + n + ")", desk.reason(n), n == 0 || n == 4 ? 1 : 0);
    }
    Checks.makes(desk, "a0", "");
    Checks.due("reasons behind a make() of none", desk.reason(0) + desk.reason(4), 0);
  }

  private static void reasonOfNoFile() {
    Checks.sentence("-1 if n is not 0 .. 31.");
    RebuildDesk desk = Checks.deskThatRead(CHAIN);
    for (int n : NO_FILES) {
      Checks.due("reason(" + n + ") before any make()", desk.reason(n), -1);
    }
    Checks.due("make of all", Checks.make(desk, 3), "32");
    for (int n = 0; n < 32; n++) {
      Checks.due("reason(" + n + ")", desk.reason(n), 1);
    }
    for (int n : NO_FILES) {
      Checks.due("reason(" + n + ")", desk.reason(n), -1);
    }
  }
}
