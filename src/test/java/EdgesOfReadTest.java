/** The sentences of promises 5 to 8 that name an edge: a test for each. */
public final class EdgesOfReadTest {
  private static final String ALL = "a0a1a2a3b0b1b2b3c0c1c2c3d0d1d2d3e0e1e2e3f0f1f2f3g0g1g2g3h0h1h2h3";
  private static final int[] NO_FILES = {-1, 32, 33, -32, -31, 63, 64, 256, Integer.MIN_VALUE, Integer.MIN_VALUE + 31, Integer.MAX_VALUE};

  public static void main(String[] args) {
    numberOfRules();
    fromNowOn();
    mostPatterns();
    notWellFormed();
    standingWrong();
    loopingMacro();
    leadingToALoop();
    mostNames();
    namesAgain();
    namesByMacros();
    namesThatWrapAround();
    targetOfTwo();
    firstThatApplies();
    noFault();
    faultOfForm();
    faultBehindPattern();
    faultOfRecipe();
    faultOfLastPattern();
    faultOfLoop();
    faultOfLength();
    faultOfSecondRecipe();
    sourceBits();
    sourcesOfNoFile();
    recipes();
    recipeOfNoFile();
    Checks.end();
  }

  private static void numberOfRules() {
    Checks.sentence("Reads the text: how many rules it has");
    Checks.readsAs("", 0);
    Checks.readsAs("\nA=a0\n%1:%0\n\tx\n \n", 0);
    Checks.readsAs("a0:\n", 1);
    Checks.readsAs("a0:\n\ta1:\n\ta2:\n", 1);
    Checks.readsAs("a0:\na0:\na0:\n", 3);
    Checks.readsAs("$A:\n$A:a0\n", 2);
    Checks.readsAs("a0 a1 a2:\n", 1);
    Checks.readsAs("a0:\n".repeat(59), 59);
    Checks.readsAs("a0:\n".repeat(60), 60);
    RebuildDesk desk = Checks.deskThatRead("a0:\n".repeat(58) + "h3:g2\n");
    Checks.due("the last of 59 rules counts", desk.sources(31), Checks.files("g2"));
  }

  private static void fromNowOn() {
    Checks.sentence("they, and the patterns, are the rules read from now on");
    RebuildDesk desk = Checks.deskThatRead("a0:b0\n\tx\n%1:%0\n\tx\n");
    Checks.stamp(desk, "b0", 1);
    Checks.makes(desk, "a1", "a0/1 a1/1");
    desk.erase();
    Checks.write(desk, "a0:c0\n%2:%0\n\tx\n");
    Checks.due("read() of others", Checks.read(desk), "1");
    Checks.due("sources(0)", desk.sources(0), Checks.files("c0"));
    Checks.due("recipe(0)", desk.recipe(0), 0);
    Checks.stamp(desk, "c0", 1);
    Checks.stamp(desk, "a1", 0);
    Checks.makeFails(desk, "a1", Checks.NO_ELEMENT);
    Checks.makes(desk, "a2", "a2/1");
    Checks.due("read() of the same", Checks.read(desk), "1");
    Checks.due("sources(0) behind it", desk.sources(0), Checks.files("c0"));
    Checks.write(desk, "x\n");
    Checks.due("read() that throws", Checks.read(desk), Checks.ARGUMENT);
    Checks.stamp(desk, "a2", 0);
    Checks.makes(desk, "a2", "a2/1");
    desk.erase();
    Checks.due("read() of nothing", Checks.read(desk), "0");
    Checks.stamp(desk, "a2", 0);
    Checks.makeFails(desk, "a2", Checks.NO_ELEMENT);
  }

  private static void mostPatterns() {
    Checks.sentence("they, and the patterns, are the rules read from now on");
    RebuildDesk desk = Checks.deskThatRead("%1:%2\n\t\n".repeat(29) + "%1:%0\n\t\n");
    Checks.stamp(desk, "a0", 1);
    Checks.makes(desk, "a1", "a1/1");
    Checks.due("length() of 30 patterns", desk.erase(), 240);
    Checks.write(desk, "%1:%2\n\t\n");
    Checks.due("read() of one pattern behind 30", Checks.read(desk), "0");
    Checks.stamp(desk, "a1", 0);
    Checks.makeFails(desk, "a1", Checks.NO_ELEMENT);
  }

  private static void notWellFormed() {
    Checks.sentence("IllegalArgumentException if a line is not well formed");
    String[] texts = {"x\n", "a0\n", "a0:\nA\n", "a0:\n\tx\n%1:%\n\tx\n", "a0:b\n", "A=$\n", " :\n", "a0:", "\n\n "};
    for (String text : texts) {
      Checks.due("read() of " + Checks.shown(text), Checks.read(Checks.deskWith(text)), Checks.ARGUMENT);
    }
  }

  private static void standingWrong() {
    Checks.sentence("also if it does not stand before or behind a line as it must");
    String[] texts = {"\tx\n", "\n\tx\n", "A=\n\tx\n", "a0:\n\n\tx\n", "%1:%0\n", "%1:%0\n\n", "%1:%0\na0:\n", "%1:%0\n%1:%0\n\tx\n"};
    for (String text : texts) {
      Checks.due("read() of " + Checks.shown(text), Checks.read(Checks.deskWith(text)), Checks.ARGUMENT);
    }
  }

  private static void loopingMacro() {
    Checks.sentence("IllegalStateException if a rule uses a macro that leads to itself");
    Checks.readFails("A=$A\n$A:\n", Checks.STATE, 2);
    Checks.readFails("A=$A\na0:$A\n", Checks.STATE, 2);
    Checks.readFails("Z=b0$Zc0\na0:$Z\n\tx\n", Checks.STATE, 2);
    Checks.readFails("A=$B\nB=$C\nC=$A\na0:b0 $C\n", Checks.STATE, 4);
    Checks.readsAs("A=$A\na0:$B\n", 1);
    Checks.readsAs("A=$A\n", 0);
    Checks.readsAs("A=$A\n%1:%0\n\t$A\na0:\n\t$A\n", 1);
    Checks.readsAs("A=$A\nA=$B\na0:$A\n", 1);
  }

  private static void leadingToALoop() {
    Checks.sentence("or to one that leads to itself");
    Checks.readFails("A=$B\nB=$B\na0:$A\n", Checks.STATE, 3);
    Checks.readFails("A=$B\nB=$C\nC=$D\nD=$C\n$A:\n", Checks.STATE, 5);
    Checks.readFails("C=$C\nB=$C\nA=b0$B\na0:$A\n", Checks.STATE, 4);
    Checks.readsAs("A=b0\nB=$B$A\na0:$A\n", 1);
  }

  private static void mostNames() {
    Checks.sentence("if the two phrases of a rule, expanded, have together more than 64 names");
    Checks.readsAs(ALL + ":" + ALL + "\n", 1);
    Checks.readFails(ALL + "a0:" + ALL + "\n", Checks.UNSUPPORTED, 1);
    Checks.readFails(ALL + ":" + ALL + "a0\n", Checks.UNSUPPORTED, 1);
    Checks.readsAs("a0".repeat(64) + ":\n", 1);
    Checks.readFails("a0".repeat(65) + ":\n", Checks.UNSUPPORTED, 1);
    Checks.readsAs("$A:" + "a0".repeat(64) + "\n", 1);
    Checks.readFails("$A:" + "a0".repeat(65) + "\n", Checks.UNSUPPORTED, 1);
    Checks.readsAs("a0:" + "a0".repeat(63) + "\n", 1);
    Checks.readFails("a0:" + "a0".repeat(64) + "\n", Checks.UNSUPPORTED, 1);
    Checks.readsAs("a0".repeat(63) + ":a0\n", 1);
    Checks.readFails("a0".repeat(64) + ":a0\n", Checks.UNSUPPORTED, 1);
    // Two rules have more than 64 names together, but none of them has.
    Checks.readsAs("a0:" + "b0".repeat(50) + "\na0:" + "b0".repeat(50) + "\n", 2);
    Checks.readsAs("a0:" + "$B".repeat(100) + "\n", 1);
    Checks.readsAs("a0:\n\t" + "a0".repeat(70) + "\n", 1);
    RebuildDesk desk = Checks.deskThatRead(ALL + ":" + ALL + "\n");
    Checks.due("sources(31) with 64 names", desk.sources(31), -1);
  }

  private static void namesAgain() {
    Checks.sentence("a name that comes again counts again");
    Checks.readsAs("A=" + "b0".repeat(8) + "\na0:" + "$A".repeat(7) + "b0".repeat(7) + "\n", 1);
    Checks.readFails("A=" + "b0".repeat(8) + "\na0:" + "$A".repeat(8) + "\n", Checks.UNSUPPORTED, 2);
    Checks.readFails("a0:" + "a0".repeat(64) + "\n", Checks.UNSUPPORTED, 1);
  }

  private static void namesByMacros() {
    Checks.sentence("if the two phrases of a rule, expanded, have together more than 64 names");
    String macros = "A=$B$B\nB=$C$C\nC=$D$D\nD=$E$E\nE=$F$F\nF=a0\n";
    Checks.readsAs(macros + "$A:$A\n", 1);
    Checks.readFails(macros + "$A:$Aa0\n", Checks.UNSUPPORTED, 7);
    Checks.readFails(macros + "$A$F:$A\n", Checks.UNSUPPORTED, 7);
    Checks.readFails(macros + "$A$A$A:\n", Checks.UNSUPPORTED, 7);
    Checks.readsAs(macros + "X=$A$A$A\na0:$B\n", 1);
    Checks.readsAs(macros + "X=$A$A$A\nX=\na0:$X\n", 1);
  }

  /** Sixteen macros, each with four uses of the next one: A comes to 2 to the 32 times the value of Q. */
  private static String fourfold() {
    StringBuilder lines = new StringBuilder();
    for (char letter = 'A'; letter < 'Q'; letter++) {
      lines.append(letter).append('=').append(("$" + (char) (letter + 1)).repeat(4)).append('\n');
    }
    return lines.toString();
  }

  private static void namesThatWrapAround() {
    Checks.sentence("have together more than 64 names");
    Checks.readsAs(fourfold() + "b0:$A\n", 1);
    Checks.readFails(fourfold() + "Q=a0\nb0:$A\n", Checks.UNSUPPORTED, 18);
    Checks.readFails(fourfold() + "Q=a0\n$A:\n", Checks.UNSUPPORTED, 18);
    Checks.readFails(fourfold() + "Q=a0\n$A:$A\n", Checks.UNSUPPORTED, 18);
    Checks.readFails(fourfold() + "Q=a0\nb0:$B$B\n", Checks.UNSUPPORTED, 18);
    Checks.readFails(fourfold() + "Q=a0\nb0:$B$B$B\n", Checks.UNSUPPORTED, 18);
    Checks.readFails(fourfold() + "Q=a0a0a0\n$A:$A b0\n", Checks.UNSUPPORTED, 18);
    Checks.readsAs(fourfold() + "Q=a0\n$O:$O$O$O\n", 1);
    Checks.readsAs(fourfold() + "Q=a0\n$T:$N\n", 1);
    Checks.readFails(fourfold() + "Q=a0\n$Q:$N\n", Checks.UNSUPPORTED, 18);
  }

  private static void targetOfTwo() {
    Checks.sentence("or some file is a target of two rules that have a recipe");
    for (int file = 0; file < 32; file++) {
      String name = Checks.name(file);
      Checks.readFails(name + ":\n\tx\n" + name + ":\n\tx\n", Checks.UNSUPPORTED, 3);
    }
    Checks.readFails("a0 a1:\n\tx\nb0:\nb1 a1:\n\ty\n", Checks.UNSUPPORTED, 4);
    Checks.readFails("$A:\n\tx\n$B:\n\tx\nA=$B\nB=h3\n", Checks.UNSUPPORTED, 3);
    Checks.readsAs("a0:\n\tx\na0:\na0:\n", 3);
    Checks.readsAs("a0:\na0:\n\tx\n", 2);
    Checks.readsAs("a0a0 a0:\n\tx\n\ty\n", 1);
    Checks.readsAs("a0:a1\n\tx\na1:a0\n\tx\n", 2);
    Checks.readsAs("a0:b0\n\tx\na1:b0\n\tx\n", 2);
    Checks.readsAs("a1:\n\tx\n%1:%0\n\tx\n%1:%0\n\tx\n", 1);
    Checks.readsAs("$A:\n\tx\n$A:\n\tx\n", 2);
  }

  private static void firstThatApplies() {
    Checks.sentence("Throws, the first that applies");
    String doubled = "a0:\n\tx\na0:\n\tx\n";
    String tooLong = "$X$X$X$X$X:\nX=" + "b0".repeat(13) + "\n";
    String looping = "L=$L\nc0:$L\n";
    String illFormed = "d0:\n?\n";
    Checks.readFails(doubled, Checks.UNSUPPORTED, 3);
    Checks.readFails(doubled + tooLong, Checks.UNSUPPORTED, 5);
    Checks.readFails(doubled + tooLong + looping, Checks.STATE, 8);
    Checks.readFails(doubled + tooLong + looping + illFormed, Checks.ARGUMENT, 10);
    Checks.readFails(doubled + tooLong + looping + "%1:%0\n", Checks.ARGUMENT, 9);
    Checks.readFails(doubled + looping, Checks.STATE, 6);
    Checks.readFails(tooLong + illFormed, Checks.ARGUMENT, 4);
    Checks.readFails(looping + illFormed, Checks.ARGUMENT, 4);
    Checks.readFails(doubled + illFormed, Checks.ARGUMENT, 6);
    // The same rule loops and has too many names by itself.
    Checks.readFails("L=$L\nc0:$L" + "b0".repeat(65) + "\n", Checks.STATE, 2);
  }

  private static void noFault() {
    Checks.sentence("0 if the latest read() threw nothing or there was none.");
    RebuildDesk desk = new RebuildDesk();
    Checks.due("fault() at first", desk.fault(), 0);
    Checks.write(desk, "x");
    Checks.due("fault() before read()", desk.fault(), 0);
    String[] wrong = {"x\n", "A=$A\na0:$A\n", "a0:" + "a0".repeat(64) + "\n", "a0:\n\tx\na0:\n\tx\n"};
    int[] lines = {1, 2, 1, 3};
    for (int i = 0; i < wrong.length; i++) {
      desk.erase();
      Checks.write(desk, wrong[i]);
      Checks.read(desk);
      Checks.due("fault() behind " + Checks.shown(wrong[i]), desk.fault(), lines[i]);
      desk.erase();
      desk.stamp(0, 1);
      Checks.make(desk, 0);
      Checks.due("fault() before the next read()", desk.fault(), lines[i]);
      Checks.due("read() of nothing", Checks.read(desk), "0");
      Checks.due("fault() behind it", desk.fault(), 0);
    }
  }

  private static void faultOfForm() {
    Checks.sentence("for IllegalArgumentException the first line that is not well formed");
    Checks.readFails("x\ny\n\tx\n", Checks.ARGUMENT, 1);
    Checks.readFails("\na0:\n\tx\n\nA=b\nx\n", Checks.ARGUMENT, 5);
    Checks.readFails("a0:\nb0:", Checks.ARGUMENT, 2);
    Checks.readFails("x\nb0:", Checks.ARGUMENT, 1);
    Checks.readFails("\n".repeat(239) + "x", Checks.ARGUMENT, 240);
    Checks.readFails("x\n\n%1:%0\n\n", Checks.ARGUMENT, 1);
  }

  private static void faultBehindPattern() {
    Checks.sentence("or at which it is seen that the one before it is a pattern and it is no recipe");
    Checks.readFails("%1:%0\n\n\tx\n", Checks.ARGUMENT, 2);
    Checks.readFails("%1:%0\na0:\n\tx\nx\n", Checks.ARGUMENT, 2);
    Checks.readFails("%1:%0\nA=\n", Checks.ARGUMENT, 2);
    Checks.readFails("%1:%0\n%1:%0\n", Checks.ARGUMENT, 2);
    Checks.readFails("%1:%0\n\tx\n%1:%0\n%2:%0\n\tx\n", Checks.ARGUMENT, 4);
    Checks.readFails("%1:%0\nx\n", Checks.ARGUMENT, 2);
    Checks.readFails("%1:%0\n ", Checks.ARGUMENT, 2);
    Checks.readFails("\n".repeat(233) + "%1:%0\n\n", Checks.ARGUMENT, 235);
  }

  private static void faultOfRecipe() {
    Checks.sentence("or that it is a recipe where none may stand");
    Checks.readFails("\tx\nx\n", Checks.ARGUMENT, 1);
    Checks.readFails("\tx\n\ty\n", Checks.ARGUMENT, 1);
    Checks.readFails("a0:\n\tx\n\n\ty\n", Checks.ARGUMENT, 4);
    Checks.readFails("a0:\nA=a0\n\tx\n", Checks.ARGUMENT, 3);
    Checks.readFails("\n".repeat(238) + "\t\n", Checks.ARGUMENT, 239);
    // The line before is not well formed itself, and stands first.
    Checks.readFails("x\n\ty\n", Checks.ARGUMENT, 1);
  }

  private static void faultOfLastPattern() {
    Checks.sentence("a pattern at the end of the text is itself the line");
    Checks.readFails("%1:%0\n", Checks.ARGUMENT, 1);
    Checks.readFails("a0:\n\tx\n%1:%0\n", Checks.ARGUMENT, 3);
    Checks.readFails("%1:%0\n\tx\n%1:%0\n", Checks.ARGUMENT, 3);
    Checks.readFails("%1:%0", Checks.ARGUMENT, 1);
    Checks.readFails("x\n%1:%0\n", Checks.ARGUMENT, 1);
    Checks.readFails("\n".repeat(234) + "%1:%0\n", Checks.ARGUMENT, 235);
    RebuildDesk desk = Checks.deskThatRead("%1:%0\n\tx\n");
    desk.erase();
    Checks.write(desk, "%1:%0\n");
    Checks.due("read() where a recipe stood behind it before", Checks.read(desk), Checks.ARGUMENT);
    Checks.due("fault()", desk.fault(), 1);
  }

  private static void faultOfLoop() {
    Checks.sentence("For IllegalStateException the first rule that uses such a macro.");
    Checks.readFails("A=$A\n\na0:b0\n\tx\nb0:$A\n$A:\n", Checks.STATE, 5);
    Checks.readFails("$A:\nb0:$A\nA=$A\n", Checks.STATE, 1);
    Checks.readFails("a0:$C\nb0:$B\nc0:$A\nA=$A\nB=$A\n", Checks.STATE, 2);
    Checks.readFails("A=$A\n" + "\n".repeat(228) + "a0:$A\n", Checks.STATE, 230);
  }

  private static void faultOfLength() {
    Checks.sentence("For UnsupportedOperationException the first rule that is too long");
    String macro = "X=" + "b0".repeat(16) + "\n";
    Checks.readFails(macro + "a0:$X$X$X\na0:$X$X$X$X\n$X$X$X$X:a0\n", Checks.UNSUPPORTED, 3);
    Checks.readFails("$X$X$X$X:a0\na0:$X$X$X$X\n" + macro, Checks.UNSUPPORTED, 1);
    Checks.readFails("a0:\n\tx\na0:\n\tx\n" + macro + "a0:$X$X$X$X\n\tx\n", Checks.UNSUPPORTED, 6);
    Checks.readFails(macro + "\n".repeat(193) + "a0:$X$X$X$X\n", Checks.UNSUPPORTED, 195);
  }

  private static void faultOfSecondRecipe() {
    Checks.sentence("the first rule with a recipe which has a target that a rule with a recipe before it has");
    Checks.readFails("a0:\n\tx\na0:\nb0:\n\tx\n\nb0:\n\tx\na0:\n\tx\n", Checks.UNSUPPORTED, 7);
    Checks.readFails("a0:\na0:\n\tx\na0:\na0:\n\tx\n", Checks.UNSUPPORTED, 5);
    Checks.readFails("a0:\n\tx\na0:\n\tx\na0:\n\tx\n", Checks.UNSUPPORTED, 3);
    Checks.readFails("a0:\n\tx\nb0:\n\tx\nc0:\n\tx\na0:\n\tx\n", Checks.UNSUPPORTED, 7);
    Checks.readFails("a0a1a2:\n\tx\nb0b1a2:\n\tx\n", Checks.UNSUPPORTED, 3);
    Checks.readFails("a0:\n\t\n" + "\n".repeat(228) + "a0:\n\t\n", Checks.UNSUPPORTED, 231);
  }

  private static void sourceBits() {
    Checks.sentence("The explicit sources of file n, bit k for file k");
    for (int file = 0; file < 32; file++) {
      RebuildDesk desk = Checks.deskThatRead("a0h3:" + Checks.name(file) + "\n");
      Checks.due("sources(0) for " + Checks.name(file), desk.sources(0), 1 << file);
      Checks.due("sources(31) for " + Checks.name(file), desk.sources(31), 1 << file);
      Checks.due("sources(1)", desk.sources(1), 0);
    }
    RebuildDesk desk = Checks.deskThatRead("a0:" + ALL + "\n%1:%0\n\tx\n");
    Checks.due("sources(0) for all", desk.sources(0), -1);
    Checks.due("a pattern's file is none", desk.sources(1), 0);
  }

  /** A desk on which each of the 32 files has a recipe and all files as sources. */
  private static RebuildDesk fullDesk() {
    return Checks.deskThatRead(ALL + ":" + ALL + "\n\tx\n");
  }

  private static void sourcesOfNoFile() {
    Checks.sentence("0 if n is not 0 .. 31");
    RebuildDesk desk = fullDesk();
    for (int n = 0; n < 32; n++) {
      Checks.due("sources(" + n + ")", desk.sources(n), -1);
    }
    for (int n : NO_FILES) {
      Checks.due("sources(" + n + ")", desk.sources(n), 0);
    }
  }

  private static void recipes() {
    Checks.sentence("1 if file n has an explicit recipe, 0 if not");
    for (int file = 0; file < 32; file++) {
      RebuildDesk desk = Checks.deskThatRead(Checks.name(file) + ":\n\tx\n" + ALL + ":\n%1:%0\n\tx\n");
      for (int n = 0; n < 32; n++) {
        Checks.due("recipe(" + n + ") for " + Checks.name(file), desk.recipe(n), n == file ? 1 : 0);
      }
    }
  }

  private static void recipeOfNoFile() {
    Checks.sentence("-1 if n is not 0 .. 31");
    RebuildDesk desk = fullDesk();
    for (int n = 0; n < 32; n++) {
      Checks.due("recipe(" + n + ")", desk.recipe(n), 1);
    }
    for (int n : NO_FILES) {
      Checks.due("recipe(" + n + ")", desk.recipe(n), -1);
      Checks.due("recipe(" + n + ") of a new object", new RebuildDesk().recipe(n), -1);
    }
  }
}
