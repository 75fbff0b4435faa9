/** Promises 5 to 8: read, fault, sources, recipe. */
public final class ReadTest {
  public static void main(String[] args) {
    wellFormedTexts();
    illFormedLines();
    linesThatStandWrong();
    macros();
    loopingMacros();
    tooLongRules();
    doubledRecipes();
    theFirstThatApplies();
    readingAgain();
    throwingChangesNothing();
    files();
    Checks.end();
  }

  private static void wellFormedTexts() {
    Checks.readsAs("", 0);
    Checks.readsAs("\n", 0);
    Checks.readsAs("   \n\n \n", 0);
    Checks.readsAs("A=\n", 0);
    Checks.readsAs("Z=a0h3 $A$Z\n", 0);
    Checks.readsAs("a0:\n", 1);
    Checks.readsAs(" a0 : b0 \n", 1);
    Checks.readsAs("a0b1$Cc2:h3$Dg0\n", 1);
    Checks.readsAs("$A:\n", 1);
    Checks.readsAs("$Z $Z:a0\n", 1);
    Checks.readsAs("a0:a0\na0:\na0:b0\n", 3);
    Checks.readsAs("a0:\n\t\n", 1);
    Checks.readsAs("a0:\n\tany: thing % $ a9 \t\u0001\u007f\n\t\n\tmore\n", 1);
    Checks.readsAs("%0:%3\n\tx\n", 0);
    Checks.readsAs("%0:%0\n\tx\n\ty\n%3:%1\n\tz\na0:\n", 1);
    Checks.readsAs("a0:\n\t\nb0:\n\t\n\nA=b0\n%1:%2\n\t\n", 2);
    Checks.readsAs("a0:\n".repeat(60), 60);
    Checks.readsAs("%1:%2\n\t\n".repeat(30), 0);
  }

  private static void illFormedLines() {
    String[] lines = {
      "a", "a0", "a0 b0", " $A", ":", " :", "  :a0", ":a0", "::", "a0::", "a0:b0:", "a0:b", "a0:4", "a:b0", "a0:0",
      "a4:", "i0:", "A0:", "a0:i0", "a0:a4", "a 0:", "a0:$", "a0:$a", "a0:$1", "a0:$ A", "a0:$$A", "a0:$A0",
      "$:a0", "a0:\t", "a0\t:", " \t", " \tx", "A", "A =", " A=", "a=", "AB=", "A=a", "A=:", "A=a0:", "A==", "A=$",
      "A=b0:c0", "=a0", "[=", "@=", "a0:$@", "a0:$[", "%1:%2 ", " %1:%2", "%1 :%2", "%1:%4", "%4:%1", "%1:2", "1:%2", "%1:%",
      "%1:%22", "%1:a2", "a1:%2", "%1;%2", "%/:%1", "%1:%/", "x", "#", "a0:b0\r", "a0:`0", "a0:a/", "\u007f", "%", "%1", "%1:",
    };
    for (String line : lines) {
      Checks.readFails(line + "\n", Checks.ARGUMENT, 1);
      Checks.readFails("\n" + line + "\n", Checks.ARGUMENT, 2);
      Checks.readFails("a0:\n\tx\n" + line + "\n\ty\n", Checks.ARGUMENT, 3);
    }
    String[] endless = {" ", "A=", "a0:", "\tx", "%1:%2", "x"};
    for (String line : endless) {
      Checks.readFails(line, Checks.ARGUMENT, 1);
      Checks.readFails("a0:\n\tx\n" + line, Checks.ARGUMENT, 3);
    }
    Checks.readFails("x\ny\n", Checks.ARGUMENT, 1);
    Checks.readFails("a0:\nA=a\ny\n", Checks.ARGUMENT, 2);
  }

  private static void linesThatStandWrong() {
    Checks.readFails("\tx\n", Checks.ARGUMENT, 1);
    Checks.readFails("\n\tx\n", Checks.ARGUMENT, 2);
    Checks.readFails("a0:\n\n\tx\n", Checks.ARGUMENT, 3);
    Checks.readFails("a0:\n \n\tx\n", Checks.ARGUMENT, 3);
    Checks.readFails("A=a0\n\tx\n", Checks.ARGUMENT, 2);
    Checks.readFails("a0:\nA=\n\tx\n", Checks.ARGUMENT, 3);
    Checks.readFails("%1:%0\n", Checks.ARGUMENT, 1);
    Checks.readFails("\n\n%1:%0\n", Checks.ARGUMENT, 3);
    Checks.readFails("%1:%0\n\n", Checks.ARGUMENT, 2);
    Checks.readFails("%1:%0\na0:\n", Checks.ARGUMENT, 2);
    Checks.readFails("%1:%0\nA=\n", Checks.ARGUMENT, 2);
    Checks.readFails("%1:%0\n%1:%0\n\tx\n", Checks.ARGUMENT, 2);
    Checks.readFails("%1:%0\n%1:%0\n", Checks.ARGUMENT, 2);
    Checks.readFails("%1:%0\n\tx", Checks.ARGUMENT, 2);
    Checks.readFails("%1:%0\nx\n", Checks.ARGUMENT, 2);
    Checks.readFails("%1:%0\n\tx\n%1:%0\n", Checks.ARGUMENT, 3);
    Checks.readFails("%1:%0\n\nx\n", Checks.ARGUMENT, 2);
    Checks.readFails("x\n%1:%0\n", Checks.ARGUMENT, 1);
    Checks.readFails("\tx\n%1:%0\n", Checks.ARGUMENT, 1);
  }

  private static void macros() {
    RebuildDesk desk = Checks.deskThatRead("$T:$S d0\nT=a0\nS=b0\nT=a1 a2\nS=$U$V c0\nU=g3\n");
    Checks.due("only the last value counts", desk.sources(0), 0);
    int due = Checks.files("c0", "d0", "g3");
    Checks.due("a macro within a macro, one without a line", desk.sources(1), due);
    Checks.due("the second target", desk.sources(2), due);
    desk = Checks.deskThatRead("A=b0\na0:$A\nA=\n");
    Checks.due("a last value that is empty", desk.sources(0), 0);
    desk = Checks.deskThatRead("A=$A\nA=b0\na0:$A\n");
    Checks.due("a loop that a later line ends", desk.sources(0), 16);
    desk = Checks.deskThatRead("Z=$A\nA=$Z\nA=$Y\nY=h3\n$Z:$A a0\n\tx\n");
    Checks.due("targets through macros", desk.sources(31), Checks.files("h3", "a0"));
    Checks.due("a recipe through macros", desk.recipe(31), 1);
    desk = Checks.deskThatRead("$A:b0\n\tx\n");
    Checks.due("a rule without a target is read", desk.fault(), 0);
    for (int file = 0; file < 32; file++) {
      Checks.due("it gives no recipe", desk.recipe(file), 0);
      Checks.due("it gives no sources", desk.sources(file), 0);
    }
    Checks.write(desk, "A=c0\n");
    Checks.due("read() with a macro put behind", Checks.read(desk), "1");
    Checks.due("the macro counts now", desk.sources(8), 16);
    desk.erase();
    Checks.write(desk, "$A:b0\n");
    Checks.read(desk);
    Checks.due("macros of an erased text are gone", desk.sources(8), 0);
  }

  private static void loopingMacros() {
    Checks.readFails("A=$A\na0:$A\n", Checks.STATE, 2);
    Checks.readFails("A=$A\n$A:a0\n", Checks.STATE, 2);
    Checks.readFails("A=$B\nB=$A\na0:\nb0:$A\n", Checks.STATE, 4);
    Checks.readFails("a0:$A\nA=$B\nB=c0$B\n", Checks.STATE, 1);
    Checks.readFails("A=$B\nB=$C\nC=$D\nD=$C\na0:b0\nb0:c0 $A\nc0:$D\n", Checks.STATE, 6);
    Checks.readFails("Z=$Y\nY=$X\nX=$Z\n\n$Z:\n", Checks.STATE, 5);
    Checks.readFails("A=$A\nB=b0\na0:$A$B\n", Checks.STATE, 3);
    Checks.readFails("A=$A\nB=b0\na0:$B$A\n", Checks.STATE, 3);
    Checks.readFails("A=$A\nB=b0\nC=$A$B\na0:$C\n", Checks.STATE, 4);
    Checks.readFails("P=$A\nA=$R\nR=$R\na0:$P\n", Checks.STATE, 4);
    Checks.readsAs("A=$A\na0:\n", 1);
    Checks.readsAs("A=$B\nB=$A\nC=$A\nD=\na0:$D\n", 1);
    Checks.readsAs("A=$B$B$C\nB=$C\nC=a0\na0:$A\n", 1);
    Checks.readsAs("A=$B\nB=$B\nB=\na0:$A\n", 1);
  }

  private static void tooLongRules() {
    String eight = "A=a0a0a0a0a0a0a0a0\n";
    String all = "$A$A$A$A$A$A$A$A";
    Checks.readsAs(eight + "b0:$A$A$A$A$A$A$A a0a0a0a0a0a0a0\n", 1);
    Checks.readsAs(eight + "$A$A$A$A:$A$A$A$A\n", 1);
    Checks.readFails(eight + "b0$A$A$A$A:$A$A$A$A\n", Checks.UNSUPPORTED, 2);
    Checks.readFails(eight + "$A$A$A$A:$A$A$A$A b0\n", Checks.UNSUPPORTED, 2);
    Checks.readFails(eight + "b0:\nb0:" + all + "\nc0:" + all + "\n", Checks.UNSUPPORTED, 3);
    Checks.readFails(eight + "$C:" + all + "c0\n", Checks.UNSUPPORTED, 2);
    Checks.readsAs(eight + "$C:" + all + "\n", 1);
    Checks.readsAs("a0b0c0d0:" + "e0".repeat(60) + "\n", 1);
    Checks.readFails("a0b0c0d0f0:" + "e0".repeat(60) + "\n", Checks.UNSUPPORTED, 1);
    Checks.readsAs(eight + "B=$A$A$A$A$A$A$A$A$A\na0:\n", 1);
    StringBuilder doubling = new StringBuilder();
    for (char letter = 'A'; letter < 'Z'; letter++) {
      doubling.append(letter).append("=$").append((char) (letter + 1)).append('$').append((char) (letter + 1)).append('\n');
    }
    Checks.readsAs(doubling + "a0:$A\n", 1);
    Checks.readFails(doubling + "Z=b0\na0:$A\n", Checks.UNSUPPORTED, 27);
    Checks.readsAs(doubling + "Z=b0\na0:$U\n", 1);
    Checks.readsAs(doubling + "Z=b0\n$V:$U\n", 1);
    Checks.readFails(doubling + "Z=b0\n$Z:$T\n", Checks.UNSUPPORTED, 27);
    StringBuilder trebling = new StringBuilder();
    for (char letter = 'A'; letter < 'W'; letter++) {
      char next = (char) (letter + 1);
      trebling.append(letter).append("=$").append(next).append('$').append(next).append('$').append(next).append('\n');
    }
    Checks.readFails(trebling + "W=a0\nb0:$A\n", Checks.UNSUPPORTED, 24);
  }

  private static void doubledRecipes() {
    Checks.readFails("a0:\n\tx\na0:\n\ty\n", Checks.UNSUPPORTED, 3);
    Checks.readFails("a0 b0:\n\tx\nc0:\n\ty\nd0 b0:\n\tz\na0:\n\tx\n", Checks.UNSUPPORTED, 5);
    Checks.readFails("a0:\n\tx\na0:\na0:\n\ty\n", Checks.UNSUPPORTED, 4);
    Checks.readFails("A=a0\n$A:\n\tx\n$A:\n\ty\n", Checks.UNSUPPORTED, 4);
    Checks.readsAs("a0:\na0:\n\tx\na0:\n", 3);
    Checks.readsAs("a0 a0$A:\n\tx\nA=a0\n", 1);
    Checks.readsAs("a0:\n\tx\n\ty\nb0:\n\tz\n", 2);
    Checks.readsAs("a0:b0\n\tx\nb0:a0\n\ty\n", 2);
  }

  private static void theFirstThatApplies() {
    String eight = "A=a0a0a0a0a0a0a0a0\n";
    String all = "$A$A$A$A$A$A$A$A";
    Checks.readFails("B=$B\nb0:$B\nx\n", Checks.ARGUMENT, 3);
    Checks.readFails("B=$B\nb0:$B\n%1:%2\n", Checks.ARGUMENT, 3);
    Checks.readFails(eight + "b0:b0" + all + "\nB=$B\nc0:$B\n", Checks.STATE, 4);
    Checks.readFails("a0:\n\tx\na0:\n\tx\nB=$B\nc0:$B\n", Checks.STATE, 6);
    Checks.readFails(eight + "c0:\n\tx\nc0:\n\tx\nb0:b0" + all + "\n", Checks.UNSUPPORTED, 6);
    Checks.readFails("a0:\n\tx\na0:\n\tx\nx\n", Checks.ARGUMENT, 5);
    Checks.readFails("B=$C\nC=$B\nb0:b0$B" + "b0".repeat(64) + "\n", Checks.STATE, 3);
  }

  private static void readingAgain() {
    RebuildDesk desk = Checks.deskThatRead("a0:\n\tx\n");
    desk.erase();
    Checks.write(desk, "a0:b0\n");
    Checks.due("read() of a shorter text", Checks.read(desk), "1");
    Checks.due("the recipe line that was erased is gone", desk.recipe(0), 0);
    desk.erase();
    Checks.write(desk, "A=$A\na0:$A\n");
    Checks.due("read() of a loop", Checks.read(desk), Checks.STATE);
    desk.erase();
    Checks.write(desk, "A=c0\na0:$A\n");
    Checks.due("read() without the loop", Checks.read(desk), "1");
    Checks.due("sources without the loop", desk.sources(0), Checks.files("c0"));
    Checks.write(desk, "x");
    Checks.due("read() of a longer text", Checks.read(desk), Checks.ARGUMENT);
    Checks.due("fault() of a longer text", desk.fault(), 3);
    Checks.due("read() again", Checks.read(desk), Checks.ARGUMENT);
    Checks.due("fault() stays", desk.fault(), 3);
    desk.erase();
    Checks.write(desk, "%1:%0\n");
    Checks.due("read() of a pattern where more lines were", Checks.read(desk), Checks.ARGUMENT);
    Checks.due("fault() of a pattern", desk.fault(), 1);
  }

  private static void throwingChangesNothing() {
    String[] bad = {"x\n", "B=$B\ng0:$B\n", "g0:\n\tx\ng0:\n\ty\n"};
    String[] exceptions = {Checks.ARGUMENT, Checks.STATE, Checks.UNSUPPORTED};
    int[] faults = {1, 2, 3};
    for (int i = 0; i < bad.length; i++) {
      RebuildDesk desk = Checks.deskThatRead("a0:b0 c0\n\tx\n%1:%0\n\ty\n");
      desk.stamp(4, 3);
      desk.stamp(8, 3);
      Checks.due("make", Checks.make(desk, 0), "1");
      desk.erase();
      Checks.write(desk, bad[i]);
      Checks.due("read()", Checks.read(desk), exceptions[i]);
      Checks.due("fault()", desk.fault(), faults[i]);
      Checks.due("length() stays", desk.length(), bad[i].length());
      Checks.due("sources stay", desk.sources(0), Checks.files("b0", "c0"));
      Checks.due("no new sources", desk.sources(24), 0);
      Checks.due("recipes stay", desk.recipe(0), 1);
      Checks.due("no new recipes", desk.recipe(24), 0);
      Checks.due("stamps stay", desk.stampOf(0), 4);
      Checks.due("runs stay", Checks.runs(desk), "a0/1");
      Checks.due("the patterns read stay", Checks.make(desk, 5), "1");
      Checks.due("make() leaves fault()", desk.fault(), faults[i]);
      Checks.due("make() that throws leaves fault()", Checks.make(desk, 32) + desk.fault(), Checks.BOUNDS + faults[i]);
      Checks.due("erase() leaves fault()", desk.erase() + " " + desk.fault(), bad[i].length() + " " + faults[i]);
      Checks.due("read() of nothing", Checks.read(desk), "0");
      Checks.due("fault() behind it", desk.fault(), 0);
      Checks.due("the rules are gone", desk.sources(0), 0);
      Checks.due("the recipes are gone", desk.recipe(0), 0);
      Checks.due("the patterns are gone", Checks.make(desk, 9), Checks.NO_ELEMENT);
    }
  }

  private static void files() {
    StringBuilder text = new StringBuilder();
    for (int file = 0; file < 32; file++) {
      RebuildDesk desk = Checks.deskThatRead(Checks.name(file) + ":a0" + Checks.name(31 - file) + "\n\tx\n");
      for (int other = 0; other < 32; other++) {
        Checks.due("sources(" + other + ")", desk.sources(other), other == file ? 1 | 1 << (31 - file) : 0);
        Checks.due("recipe(" + other + ")", desk.recipe(other), other == file ? 1 : 0);
      }
      text.append(Checks.name(file));
    }
    RebuildDesk desk = Checks.deskThatRead("h3 h3 a0:" + text + "\nh3 b0:\n\tx\nb0:c0\nb0:c0 d0\n");
    Checks.due("all files are sources", desk.sources(31), -1);
    Checks.due("all files are sources of both", desk.sources(0), -1);
    Checks.due("sources of several rules", desk.sources(4), Checks.files("c0", "d0"));
    Checks.due("a recipe of one rule of several", desk.recipe(31) + desk.recipe(4), 2);
    Checks.due("a rule without a recipe gives none", desk.recipe(0), 0);
    int[] none = {-1, 32, 33, Integer.MIN_VALUE, Integer.MAX_VALUE};
    for (int n : none) {
      Checks.due("sources(" + n + ")", desk.sources(n), 0);
      Checks.due("recipe(" + n + ")", desk.recipe(n), -1);
    }
    desk = Checks.deskThatRead("a0:\nA=\nb0:\n\n\nc0:\n\tx\nd0:\n");
    Checks.due("a recipe belongs to the line before it",
        "" + desk.recipe(0) + desk.recipe(4) + desk.recipe(8) + desk.recipe(12), "0010");
    desk = Checks.deskThatRead("%1:%0\n\tx\na1:\n");
    Checks.due("a pattern gives no explicit recipe", desk.recipe(1), 0);
    Checks.due("a pattern gives no explicit source", desk.sources(1), 0);
  }
}
