/** The sentences of "Terms" on the graph, on what is out of date and on calls that throw: a test for each. */
public final class EdgesOfGraphTest {
  private static final String RULES = "a0:b0 c0\n\tx\n%1:%0\n\ty\nd0:d0\ne0:f0\n";

  public static void main(String[] args) {
    availableByStamp();
    availableByRecipe();
    availableByPattern();
    leastSet();
    explicitRecipeBeforePatterns();
    firstPattern();
    patternAddsItsFile();
    noPattern();
    foundation();
    longestFoundation();
    recipeNeeded();
    stampZero();
    sourceOutOfDate();
    sourceNewer();
    firstReason();
    noReason();
    readThatThrows();
    makeThatThrows();
    Checks.end();
  }

  private static void availableByStamp() {
    Checks.sentence("a file is AVAILABLE if its stamp is not 0");
    RebuildDesk desk = Checks.deskThatRead("%1:%0\n\tx\n");
    Checks.stamp(desk, "b1", 5);
    Checks.makes(desk, "b1", "");
    Checks.makeFails(desk, "a1", Checks.NO_ELEMENT);
    Checks.stamp(desk, "a0", 1);
    Checks.makes(desk, "a1", "a1/1");
    Checks.stamp(desk, "a1", 0);
    Checks.stamp(desk, "a0", 0);
    Checks.makeFails(desk, "a1", Checks.NO_ELEMENT);
    Checks.stamp(desk, "h0", 999999999);
    Checks.makes(desk, "h1", "h1/1");
    Checks.stamp(desk, "h0", 1000000000);
    Checks.stamp(desk, "h1", 0);
    Checks.makeFails(desk, "h1", Checks.ARITHMETIC);
  }

  private static void availableByRecipe() {
    Checks.sentence("or it has an explicit recipe");
    RebuildDesk desk = Checks.deskThatRead("a0:\n\tx\nb0:\n%1:%0\n\ty\n");
    Checks.makes(desk, "a1", "a0/1 a1/1");
    Checks.makeFails(desk, "b1", Checks.NO_ELEMENT);
    // Available even though it can't be made: so a1 takes the pattern, and the missing file is found behind it.
    desk = Checks.deskThatRead("a0:b0\n\tx\n%1:%0\n\ty\n");
    Checks.stamp(desk, "a1", 1);
    Checks.makeFails(desk, "a1", Checks.NO_ELEMENT);
  }

  private static void availableByPattern() {
    Checks.sentence("for some pattern %d:%s read its kind is d and the file with its stem and the kind s is available");
    RebuildDesk desk = Checks.deskThatRead("%3:%2\n\tx\n%2:%1\n\tx\n%1:%0\n\tx\n");
    Checks.stamp(desk, "d0", 1);
    Checks.makes(desk, "d3", "d1/1 d2/1 d3/1");
    Checks.makeFails(desk, "c3", Checks.NO_ELEMENT);
    Checks.makeFails(desk, "e3", Checks.NO_ELEMENT);
    Checks.makes(desk, "d0", "");
    desk = Checks.deskThatRead("%0:%1\n\tx\n%1:%2\n\tx\n%2:%3\n\tx\n");
    Checks.stamp(desk, "h3", 1);
    Checks.makes(desk, "h0", "h2/1 h1/1 h0/1");
    // Not the first of two patterns, but some pattern.
    desk = Checks.deskThatRead("%2:%1\n\tx\n%1:%3\n\tx\n%1:%0\n\tx\n");
    Checks.stamp(desk, "a0", 1);
    Checks.makes(desk, "a2", "a1/1 a2/1");
  }

  private static void leastSet() {
    Checks.sentence("the least such set of files counts");
    String[] rings = {"%1:%1\n\tx\n", "%1:%2\n\tx\n%2:%1\n\tx\n", "%1:%2\n\tx\n%2:%3\n\tx\n%3:%1\n\tx\n",
      "%0:%1\n\tx\n%1:%2\n\tx\n%2:%3\n\tx\n%3:%0\n\tx\n"};
    for (String ring : rings) {
      RebuildDesk desk = Checks.deskThatRead(ring);
      Checks.makeFails(desk, "a1", Checks.NO_ELEMENT);
      Checks.makeFails(desk, "h1", Checks.NO_ELEMENT);
      Checks.stamp(desk, "a1", 1);
      Checks.makeFails(desk, "a1", Checks.STATE);
      Checks.makeFails(desk, "h1", Checks.NO_ELEMENT);
    }
  }

  private static void explicitRecipeBeforePatterns() {
    Checks.sentence("A file with an explicit recipe has a recipe and its explicit sources");
    RebuildDesk desk = Checks.deskThatRead("%1:%0\n\ty\na1:b0\n\tx\n");
    Checks.stamp(desk, "b0", 1);
    Checks.stamp(desk, "a1", 2);
    Checks.stamp(desk, "a0", 3);
    Checks.makes(desk, "a1", "");
    Checks.stamp(desk, "b0", 3);
    Checks.makes(desk, "a1", "a1/3");
    desk = Checks.deskThatRead("%1:%1\n\ty\na1:\n\tx\n");
    Checks.makes(desk, "a1", "a1/1");
  }

  private static void firstPattern() {
    Checks.sentence("Another one takes the first pattern %d:%s in the text for which its kind is d");
    RebuildDesk desk = Checks.deskThatRead("%2:%3\n\tx\n%1:%0\n\tx\n%1:%2\n\tx\n%1:%3\n\tx\n");
    Checks.stamp(desk, "a0", 1);
    Checks.stamp(desk, "a1", 2);
    Checks.stamp(desk, "a2", 3);
    Checks.makes(desk, "a1", "");
    Checks.stamp(desk, "a0", 4);
    Checks.makes(desk, "a1", "a1/3");
    Checks.stamp(desk, "a0", 0);
    Checks.stamp(desk, "a2", 6);
    Checks.makes(desk, "a1", "a1/3");
    Checks.stamp(desk, "a2", 0);
    Checks.stamp(desk, "a3", 6);
    // Through the third pattern again, since a2 can be made by the first.
    Checks.makes(desk, "a1", "a2/1 a1/2");
  }

  private static void patternAddsItsFile() {
    Checks.sentence("it has a recipe then, and its explicit sources and that file");
    RebuildDesk desk = Checks.deskThatRead("a1:b0\n%1:%0\n\tx\na1:c0\n");
    String[] sources = {"a0", "b0", "c0"};
    for (String name : sources) {
      Checks.stamp(desk, name, 1);
    }
    Checks.makes(desk, "a1", "a1/1");
    for (String name : sources) {
      Checks.stamp(desk, name, desk.stampOf(1) + 1);
      Checks.makes(desk, "a1", "a1/3");
    }
    Checks.due("sources(1) tells the explicit ones alone", desk.sources(1), Checks.files("b0", "c0"));
    Checks.due("recipe(1) tells the explicit one alone", desk.recipe(1), 0);
  }

  private static void noPattern() {
    Checks.sentence("if there is no such pattern, it has no recipe, and its explicit sources");
    RebuildDesk desk = Checks.deskThatRead("a1:b0\nb0:\n\tx\n%1:%0\n\tx\n%2:%1\n\tx\n");
    Checks.makeFails(desk, "a1", Checks.NO_ELEMENT);
    Checks.stamp(desk, "a1", 1);
    Checks.makes(desk, "a1", "b0/1");
    Checks.due("its stamp stays", desk.stampOf(1), 1);
    Checks.makes(desk, "a1", "");
  }

  private static void foundation() {
    Checks.sentence("all files to which one comes from it by going from a file to one of its sources, once or more often");
    RebuildDesk desk = Checks.deskThatRead("a0:b0\nb0:c0\nc0:d0\n\tx\nd0:\n\tx\ne0:e0\nf0:g0\ng0:f0\nh0:a0 f1\n");
    for (int file = 0; file < 32; file++) {
      desk.stamp(file, 1);
    }
    Checks.stamp(desk, "d0", 2);
    // No step is not one step: d0 has no sources, so it is not in its own foundation.
    Checks.makes(desk, "d0", "");
    Checks.makes(desk, "a0", "c0/3");
    Checks.makeFails(desk, "e0", Checks.STATE);
    Checks.makeFails(desk, "f0", Checks.STATE);
    Checks.makeFails(desk, "g0", Checks.STATE);
    Checks.makes(desk, "h0", "");
    // The same steps from greater numbers to lesser ones.
    desk = Checks.deskThatRead("h3:g0\ng0:f0\nf0:e0\ne0:d0\nd0:c0\n\tx\n");
    for (int file = 0; file < 32; file++) {
      desk.stamp(file, file == 8 ? 2 : 1);
    }
    Checks.makes(desk, "h3", "d0/3");
  }

  private static void longestFoundation() {
    Checks.sentence("once or more often");
    String patterns = "%1:%0\n\t\n%2:%1\n\t\n%3:%2\n\t\n";
    String steps = "a0:b3\n\t\nb0:c3\n\t\nc0:d3\n\t\nd0:e3\n\t\ne0:f3\n\t\nf0:g3\n\t\ng0:h3\n\t\n";
    RebuildDesk desk = Checks.deskThatRead(patterns + steps + "h0:\n\t\n");
    Checks.due("make by 31 steps", Checks.make(desk, 3), "32");
    desk = Checks.deskThatRead(patterns + steps);
    Checks.makeFails(desk, "a3", Checks.NO_ELEMENT);
    desk = Checks.deskThatRead(patterns + steps + "h0:a3\n\t\n");
    for (int file = 0; file < 32; file++) {
      Checks.due("make in a ring of 32", Checks.make(desk, file), Checks.STATE);
    }
  }

  private static void recipeNeeded() {
    Checks.sentence("A file is OUT OF DATE if it has a recipe");
    RebuildDesk desk = Checks.deskThatRead("a0:b0\nb0:c0\n\tx\nd0:a0\n\tx\n");
    Checks.stamp(desk, "a0", 1);
    Checks.stamp(desk, "b0", 2);
    Checks.stamp(desk, "c0", 3);
    Checks.stamp(desk, "d0", 4);
    // a0 has a newer source, and one that is out of date, but no recipe: so d0 has no reason either.
    Checks.makes(desk, "d0", "b0/3");
    Checks.due("reason of a0", desk.reason(0), 0);
  }

  private static void stampZero() {
    Checks.sentence("its stamp is 0 (reason 1)");
    RebuildDesk desk = Checks.deskThatRead("a0:\n\tx\n");
    Checks.makes(desk, "a0", "a0/1");
    Checks.stamp(desk, "a0", 1);
    Checks.makes(desk, "a0", "");
    Checks.stamp(desk, "a0", 0);
    Checks.makes(desk, "a0", "a0/1");
  }

  private static void sourceOutOfDate() {
    Checks.sentence("or a source is out of date (reason 2)");
    RebuildDesk desk = Checks.deskThatRead("a0:b0\n\tx\nb0:c0\n\tx\nc0:d0\n\tx\n");
    Checks.stamp(desk, "a0", 9);
    Checks.stamp(desk, "b0", 8);
    Checks.stamp(desk, "c0", 1);
    Checks.stamp(desk, "d0", 2);
    Checks.makes(desk, "a0", "c0/3 b0/2 a0/2");
    Checks.makes(desk, "a0", "");
    Checks.stamp(desk, "c0", 0);
    Checks.makes(desk, "b0", "c0/1 b0/2");
    Checks.makes(desk, "a0", "a0/3");
  }

  private static void sourceNewer() {
    Checks.sentence("or a source has a greater stamp (reason 3)");
    RebuildDesk desk = Checks.deskThatRead("a0:b0 c0\n\tx\nb0:d0\n");
    String[] names = {"a0", "b0", "c0", "d0"};
    for (String name : names) {
      Checks.stamp(desk, name, 5);
    }
    Checks.makes(desk, "a0", "");
    Checks.stamp(desk, "b0", 4);
    Checks.makes(desk, "a0", "");
    // A source's source is none of its own.
    Checks.stamp(desk, "d0", 6);
    Checks.makes(desk, "a0", "");
    Checks.stamp(desk, "c0", 6);
    Checks.makes(desk, "a0", "a0/3");
    Checks.stamp(desk, "b0", 8);
    Checks.makes(desk, "a0", "a0/3");
  }

  private static void firstReason() {
    Checks.sentence("the first of these that holds is its reason");
    RebuildDesk desk = Checks.deskThatRead("a0:b0 c0\n\tx\nb0:d0\n\tx\n");
    int[][] cases = {{0, 1, 9, 9, 1}, {0, 0, 9, 9, 1}, {0, 9, 9, 1, 1}, {0, 1, 1, 1, 1},
      {2, 1, 9, 9, 2}, {2, 0, 9, 1, 2}, {2, 3, 1, 4, 2}, {5, 1, 1, 2, 2}, {2, 1, 9, 1, 3}, {2, 3, 1, 1, 3}, {2, 2, 2, 2, 0}};
    for (int[] row : cases) {
      Checks.stamp(desk, "a0", row[0]);
      Checks.stamp(desk, "b0", row[1]);
      Checks.stamp(desk, "c0", row[2]);
      Checks.stamp(desk, "d0", row[3]);
      Checks.make(desk, 0);
      Checks.due("reason of a0 for " + row[0] + " " + row[1] + " " + row[2] + " " + row[3], desk.reason(0), row[4]);
    }
  }

  private static void noReason() {
    Checks.sentence("A file that is not has reason 0");
    RebuildDesk desk = Checks.deskThatRead("a0:b0\n\tx\nb0:\n\tx\nh3:\n\tx\n");
    Checks.makes(desk, "a0", "b0/1 a0/1");
    Checks.stamp(desk, "a0", 0);
    Checks.makes(desk, "a0", "a0/1");
    Checks.due("reason of b0, which is up to date", desk.reason(4), 0);
    Checks.due("reason of h3, which was not asked for", desk.reason(31), 0);
    Checks.due("reason of c0, which has no rule", desk.reason(8), 0);
  }

  /** A desk that has a text, rules, a pattern, stamps and a make behind it, so that much could change. */
  private static RebuildDesk usedDesk() {
    RebuildDesk desk = Checks.deskThatRead(RULES);
    Checks.stamp(desk, "b0", 3);
    Checks.stamp(desk, "c0", 4);
    Checks.makes(desk, "a0", "a0/1");
    return desk;
  }

  private static void readThatThrows() {
    Checks.sentence("A call that throws changes nothing but what fault() answers.");
    // Each text with its exception, its line, what mends it when it is put behind, and the rules it then has.
    String[][] cases = {
      {"g0:h0\n\tx\ng1:", Checks.ARGUMENT, "3", "\n", "2"},
      {"g0:h0\n\tx\n%2:%0\n", Checks.ARGUMENT, "3", "\tx\n", "1"},
      {"g0:h0$A\n\tx\nA=$B\nB=$A\n", Checks.STATE, "1", "A=\n", "1"},
      {"A=$B$B$B$B$B\nB=a0a0a0a0a0a0a0a0a0a0a0a0a0\ng0:h0$A\n\tx\n", Checks.UNSUPPORTED, "3", "A=\n", "1"},
      {"g0:h0\n\tx\n$A:\n\tx\nA=g0\n", Checks.UNSUPPORTED, "3", "A=g2\n", "2"},
    };
    for (String[] row : cases) {
      RebuildDesk desk = usedDesk();
      desk.erase();
      Checks.write(desk, row[0]);
      String before = Checks.stateWithoutFault(desk);
      Checks.due("read()", Checks.read(desk), row[1]);
      Checks.due("fault()", Integer.toString(desk.fault()), row[2]);
      Checks.due("all other answers", Checks.stateWithoutFault(desk), before);
      Checks.makes(desk, "a1", "a1/1");
      Checks.write(desk, row[3]);
      Checks.due("read() of the text, mended", Checks.read(desk), row[4]);
      Checks.due("fault() of the text, mended", desk.fault(), 0);
      Checks.due("sources of g0", desk.sources(24), Checks.files("h0"));
      Checks.due("sources of a0", desk.sources(0), 0);
    }
  }

  private static void makeThatThrows() {
    Checks.sentence("A call that throws changes nothing but what fault() answers.");
    int[] goals = {-1, 32, Checks.file("d0"), Checks.file("e0"), Checks.file("h2"), Checks.file("a1")};
    String[] exceptions = {Checks.BOUNDS, Checks.BOUNDS, Checks.STATE, Checks.NO_ELEMENT, Checks.NO_ELEMENT, Checks.ARITHMETIC};
    for (int i = 0; i < goals.length; i++) {
      RebuildDesk desk = usedDesk();
      // The latest read() is one that threw: a make() that throws leaves fault() to it.
      Checks.write(desk, "x");
      Checks.due("read()", Checks.read(desk), Checks.ARGUMENT);
      Checks.stamp(desk, "h3", 1000000000);
      String before = Checks.state(desk);
      Checks.due("make(" + goals[i] + ")", Checks.make(desk, goals[i]), exceptions[i]);
      Checks.due("all answers behind make(" + goals[i] + ")", Checks.state(desk), before);
      Checks.due("fault() behind it", desk.fault(), 7);
      Checks.due("the text behind it", Checks.read(desk) + desk.fault(), Checks.ARGUMENT + 7);
      Checks.stamp(desk, "h3", 0);
      Checks.makes(desk, "a1", "a1/1");
      Checks.due("the stamp of a1", desk.stampOf(1), 6);
    }
  }
}
