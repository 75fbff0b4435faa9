/** The sentences of "Terms" on files, the text, its lines and macros that name an edge: a test for each. */
public final class EdgesOfTermsTest {
  public static void main(String[] args) {
    lastPromisedCall();
    stems();
    kinds();
    numbersOfFiles();
    notThere();
    newer();
    codes();
    mostCharacters();
    countedFromOne();
    lineEnd();
    lineThatDoesNotEnd();
    emptyPhrase();
    partsOfAPhrase();
    partsSideBySide();
    wellFormedLinesEnd();
    blankLine();
    macroLine();
    ruleLine();
    patternLine();
    lineBehindPattern();
    recipeLine();
    lineBeforeRecipe();
    lastValue();
    letterWithoutValue();
    expandedAgainAndAgain();
    leading();
    targetsAndSources();
    namedTwice();
    recipeOfARule();
    rulesRead();
    explicitSources();
    explicitRecipe();
    Checks.end();
  }

  /** read() of the text must answer the number of rules, or be refused for the line if it is not 0. */
  private static void read(String text, int rules, int faultLine) {
    if (faultLine == 0) {
      Checks.readsAs(text, rules);
    } else {
      Checks.readFails(text, Checks.ARGUMENT, faultLine);
    }
  }

  private static boolean isAmong(int code, String characters) {
    return characters.indexOf(code) >= 0;
  }

  private static String letters(char first, char last) {
    StringBuilder letters = new StringBuilder();
    for (char letter = first; letter <= last; letter++) {
      letters.append(letter);
    }
    return letters.toString();
  }

  private static void lastPromisedCall() {
    Checks.sentence("An object is used for at most 512 calls after it has been made");
    RebuildDesk desk = Checks.deskThatRead("a0:b0\n\tx\n");
    int newest = 0;
    // Two writes and a read came before.
    for (int calls = 3; calls < 511; calls += 2) {
      newest += 2;
      Checks.due("stamp, call " + (calls + 1), desk.stamp(4, newest - 1), true);
      Checks.due("make, call " + (calls + 2), Checks.make(desk, 0), "1");
    }
    Checks.due("stampOf, call 512", desk.stampOf(0), 508);
    RebuildDesk refused = Checks.deskWith("x");
    for (int calls = 1; calls < 510; calls++) {
      Checks.due("read(), call " + (calls + 1), Checks.read(refused), Checks.ARGUMENT);
    }
    Checks.due("length(), call 511", refused.length(), 1);
    Checks.due("fault(), call 512", refused.fault(), 1);
  }

  private static void stems() {
    Checks.sentence("a STEM, one of the letters a to h");
    for (int code = 1; code <= 127; code++) {
      if (code != '\n') {
        int faultLine = isAmong(code, "abcdefgh") ? 0 : 1;
        read((char) code + "0:\n", 1, faultLine);
        read("a0:" + (char) code + "0\n", 1, faultLine);
        read("A=" + (char) code + "0\n", 0, faultLine);
      }
    }
  }

  private static void kinds() {
    Checks.sentence("a KIND, one of the digits 0 to 3");
    for (int code = 1; code <= 127; code++) {
      int faultLine = isAmong(code, "0123") ? 0 : 1;
      read("a" + (char) code + ":\n", 1, faultLine);
      read("a0:h" + (char) code + "\n", 1, faultLine);
      read("A=d" + (char) code + "\n", 0, faultLine);
    }
    Checks.readFails("a0:b\n", Checks.ARGUMENT, 1);
    Checks.readFails("a0:0\n", Checks.ARGUMENT, 1);
    Checks.readFails("a0:b00\n", Checks.ARGUMENT, 1);
  }

  private static void numbersOfFiles() {
    Checks.sentence("the file is 4 * (0 for a, .., 7 for h) + kind");
    String names = "a0a1a2a3b0b1b2b3c0c1c2c3d0d1d2d3e0e1e2e3f0f1f2f3g0g1g2g3h0h1h2h3";
    for (int file = 0; file < 32; file++) {
      String name = names.substring(2 * file, 2 * file + 2);
      RebuildDesk desk = Checks.deskThatRead(name + ":" + name + "\n\tx\n");
      for (int n = 0; n < 32; n++) {
        Checks.due("sources(" + n + ") for " + name, desk.sources(n), n == file ? 1 << file : 0);
        Checks.due("recipe(" + n + ") for " + name, desk.recipe(n), n == file ? 1 : 0);
      }
    }
  }

  private static void notThere() {
    Checks.sentence("0 means that it is not there");
    RebuildDesk desk = Checks.deskThatRead("a0:b0\n\tx\n");
    Checks.stamp(desk, "b0", 0);
    Checks.makeFails(desk, "a0", Checks.NO_ELEMENT);
    Checks.stamp(desk, "b0", 1);
    Checks.stamp(desk, "a0", 1);
    Checks.makes(desk, "a0", "");
    Checks.stamp(desk, "a0", 0);
    Checks.makes(desk, "a0", "a0/1");
  }

  private static void newer() {
    Checks.sentence("a greater stamp is newer");
    RebuildDesk desk = Checks.deskThatRead("a0:b0\n\tx\n");
    int[][] cases = {{2, 1, 0}, {2, 2, 0}, {2, 3, 1}, {1000000000, 1, 0}, {1000000000, 999999999, 0},
      {1000000000, 1000000000, 0}, {1, 999999999, 1}, {999999998, 999999999, 1}};
    for (int[] row : cases) {
      Checks.stamp(desk, "a0", row[0]);
      Checks.stamp(desk, "b0", row[1]);
      Checks.makes(desk, "a0", row[2] == 1 ? "a0/3" : "");
    }
  }

  private static void codes() {
    Checks.sentence("THE TEXT is a row of characters with codes 1 .. 127");
    RebuildDesk desk = Checks.deskWith("a0:\n\t");
    Checks.due("write(0)", desk.write(0), 0);
    Checks.due("write(128)", desk.write(128), -1);
    for (int code = 1; code <= 127; code++) {
      if (code != '\n') {
        Checks.due("write(" + code + ")", desk.write(code), 1);
      }
    }
    Checks.due("write(10)", desk.write(10), 1);
    Checks.due("read() of all codes", Checks.read(desk), "1");
  }

  private static void mostCharacters() {
    Checks.sentence("at most 240");
    RebuildDesk desk = Checks.deskWith("a0:" + " ".repeat(235) + "b0");
    Checks.due("length()", desk.length(), 240);
    Checks.due("write of a 241st", desk.write(10), -1);
    Checks.due("length() behind it", desk.length(), 240);
    Checks.due("read() without a line end", Checks.read(desk), Checks.ARGUMENT);
    desk = Checks.deskThatRead("a0:" + " ".repeat(234) + "b0\n");
    Checks.due("length() of a text that is read", desk.length(), 240);
    Checks.due("the source at its end", desk.sources(0), Checks.files("b0"));
  }

  private static void countedFromOne() {
    Checks.sentence("Its LINES are counted from 1");
    Checks.readFails("x\n", Checks.ARGUMENT, 1);
    Checks.readFails("\nx\n", Checks.ARGUMENT, 2);
    Checks.readFails("\n".repeat(238) + "x\n", Checks.ARGUMENT, 239);
    Checks.readFails("\n".repeat(239) + "x", Checks.ARGUMENT, 240);
  }

  private static void lineEnd() {
    Checks.sentence("a line ends with the character 10");
    for (int code = 1; code <= 127; code++) {
      boolean ends = code == 10;
      read("\na0:" + (char) code + "a1:\n", 2, ends ? 0 : 2);
      read("a0:\n\tx" + (char) code + "y\n", 1, ends ? 3 : 0);
    }
  }

  private static void lineThatDoesNotEnd() {
    Checks.sentence("characters behind the last 10 are a line that does not end");
    Checks.readsAs("", 0);
    Checks.readsAs("a0:\n", 1);
    Checks.readFails("a0:\n ", Checks.ARGUMENT, 2);
    Checks.readFails("a0:\nb0:", Checks.ARGUMENT, 2);
    Checks.readFails("a0:\n\tx", Checks.ARGUMENT, 2);
    Checks.readFails("a0:", Checks.ARGUMENT, 1);
    Checks.readsAs("\n".repeat(240), 0);
    Checks.readFails("\n".repeat(239) + " ", Checks.ARGUMENT, 240);
    RebuildDesk desk = Checks.deskWith("a0:\nb0:c0");
    Checks.due("read() before its end", Checks.read(desk), Checks.ARGUMENT);
    desk.write(10);
    Checks.due("read() once it ends", Checks.read(desk), "2");
  }

  private static void emptyPhrase() {
    Checks.sentence("PHRASE is any row (an empty one too)");
    Checks.readsAs("A=\n", 0);
    Checks.readsAs("a0:\n", 1);
    RebuildDesk desk = Checks.deskThatRead("A=\na0:$A\n\tx\nb0:\n\tx\n");
    Checks.due("no source by an empty macro", desk.sources(0), 0);
    Checks.due("no source by an empty phrase", desk.sources(4), 0);
    Checks.makes(desk, "a0", "a0/1");
    Checks.makes(desk, "b0", "b0/1");
  }

  private static void partsOfAPhrase() {
    Checks.sentence("a space; a name of a file; a MACRO USE: the character $ and a letter A to Z");
    String capitals = letters('A', 'Z');
    for (int code = 1; code <= 127; code++) {
      read("A=" + (char) code + "\n", 0, isAmong(code, " \n") ? 0 : 1);
      read("A=$" + (char) code + "\n", 0, isAmong(code, capitals) ? 0 : 1);
      read("a0:$" + (char) code + "\n", 1, isAmong(code, capitals) ? 0 : 1);
      read("$" + (char) code + ":\n", 1, isAmong(code, capitals) ? 0 : 1);
      if (code != '\n') {
        read("A=" + (char) code + "B\n", 0, code == '$' ? 0 : 1);
      }
    }
    Checks.readFails("A=$\n", Checks.ARGUMENT, 1);
    Checks.readFails("A=$ B\n", Checks.ARGUMENT, 1);
  }

  private static void partsSideBySide() {
    Checks.sentence("They may stand next to each other without a space");
    RebuildDesk desk = Checks.deskThatRead("A=b1b2\nB=\na0$Ca1$A:c0$Ad1$B$Bh3\nC=g0$Bg1\n");
    int due = Checks.files("b1", "b2", "c0", "d1", "h3");
    for (int file = 0; file < 32; file++) {
      boolean target = (Checks.files("a0", "a1", "b1", "b2", "g0", "g1") >> file & 1) == 1;
      Checks.due("sources(" + file + ")", desk.sources(file), target ? due : 0);
    }
    desk = Checks.deskThatRead("  a0   a1  :   c0     d1  \n");
    Checks.due("sources with many spaces", desk.sources(1), Checks.files("c0", "d1"));
  }

  private static void wellFormedLinesEnd() {
    Checks.sentence("A line is WELL FORMED if it ends");
    String[] lines = {" ", "A=", "A=a0", "a0:", "a0:b0", "a0:\n\t", "a0:\n\tx", "%1:%0\n\tx"};
    for (String line : lines) {
      int last = line.indexOf('\n') < 0 ? 1 : 2;
      Checks.readFails(line, Checks.ARGUMENT, last);
      Checks.readsAs(line + "\n", line.startsWith("a0:") ? 1 : 0);
    }
    Checks.readFails("%1:%0", Checks.ARGUMENT, 1);
  }

  private static void blankLine() {
    Checks.sentence("BLANK: a row of spaces, or nothing");
    Checks.readsAs("\n", 0);
    Checks.readsAs(" \n", 0);
    Checks.readsAs(" ".repeat(239) + "\n", 0);
    for (int code = 1; code <= 127; code++) {
      int faultLine = isAmong(code, " \n") ? 0 : 1;
      read((char) code + "\n", 0, faultLine);
      read(" " + (char) code + " \n", 0, faultLine);
    }
  }

  private static void macroLine() {
    Checks.sentence("MACRO: a letter A to Z, the character =, a phrase");
    for (int code = 1; code <= 127; code++) {
      if (code != '\n') {
        read((char) code + "=a0\n", 0, isAmong(code, letters('A', 'Z')) ? 0 : 1);
      }
      read("A" + (char) code + "a0\n", 0, code == '=' ? 0 : 1);
    }
    String[] wrong = {"=", "A", "A =", " A=", "AB=", "A=B", "A==", "A=a0:", "A=:"};
    for (String line : wrong) {
      Checks.readFails(line + "\n", Checks.ARGUMENT, 1);
    }
    Checks.readsAs("A=" + " ".repeat(237) + "\n", 0);
  }

  private static void ruleLine() {
    Checks.sentence("RULE: a phrase that is not only spaces, the character :, a phrase");
    for (int code = 1; code <= 127; code++) {
      read("a0" + (char) code + "b0\n", 1, code == ':' ? 0 : 1);
    }
    Checks.readFails(" :a0\n", Checks.ARGUMENT, 1);
    Checks.readFails(" ".repeat(236) + ":a0\n", Checks.ARGUMENT, 1);
    Checks.readFails(":a0\n", Checks.ARGUMENT, 1);
    Checks.readFails(":\n", Checks.ARGUMENT, 1);
    Checks.readFails("a0:b0:c0\n", Checks.ARGUMENT, 1);
    Checks.readFails("a0::\n", Checks.ARGUMENT, 1);
    Checks.readsAs(" $A:a0\n", 1);
    Checks.readsAs("$A:\nA= \n", 1);
    Checks.readsAs(" ".repeat(234) + "a0:b0\n", 1);
  }

  private static void patternLine() {
    Checks.sentence("PATTERN: five characters: %, a digit 0 to 3, :, %, a digit 0 to 3");
    String[] allowed = {"%", "0123", ":", "%", "0123"};
    for (int place = 0; place < 5; place++) {
      for (int code = 1; code <= 127; code++) {
        StringBuilder line = new StringBuilder("%1:%2");
        line.setCharAt(place, (char) code);
        int faultLine = isAmong(code, allowed[place]) ? 0 : code == '\n' && place == 0 ? 2 : 1;
        read(line + "\n\tx\n", 0, faultLine);
      }
    }
    String[] wrong = {"%", "%1", "%1:", "%1:%", "%1:%22", "%1:%2 ", " %1:%2", "%1: %2", "%1:%2%3", "%11:%2"};
    for (String line : wrong) {
      Checks.readFails(line + "\n\tx\n", Checks.ARGUMENT, 1);
    }
  }

  private static void lineBehindPattern() {
    Checks.sentence("the line behind it must be a recipe");
    Checks.readsAs("%1:%0\n\t\n", 0);
    Checks.readsAs("%1:%0\n\tx\n\ty\n\n", 0);
    String[] wrong = {"", " ", "A=", "a0:", "%1:%0"};
    for (String line : wrong) {
      Checks.readFails("%1:%0\n" + line + "\n\tx\n", Checks.ARGUMENT, 2);
    }
    Checks.readFails("%1:%0\n", Checks.ARGUMENT, 1);
  }

  private static void recipeLine() {
    Checks.sentence("RECIPE: the character 9, then any characters");
    for (int code = 1; code <= 127; code++) {
      RebuildDesk desk = Checks.deskWith("a0:\n" + (char) code + "\n");
      Checks.due("read() with " + code, Checks.read(desk), isAmong(code, "\t \n") ? "1" : Checks.ARGUMENT);
      Checks.due("recipe(0) with " + code, desk.recipe(0), code == 9 ? 1 : 0);
      if (code != '\n') {
        desk = Checks.deskThatRead("a0:\n\t" + (char) code + "\n");
        Checks.due("recipe(0) with " + code + " in it", desk.recipe(0), 1);
        Checks.due("sources(0) with " + code + " in it", desk.sources(0), 0);
      }
    }
    Checks.due("a recipe of nothing more", Checks.deskThatRead("a0:\n\t\n").recipe(0), 1);
    Checks.due("a recipe of all the rest", Checks.deskThatRead("a0:\n\t" + "x".repeat(234) + "\n").recipe(0), 1);
    RebuildDesk desk = Checks.deskThatRead("a0:\n\tb0:c0\n\tA=b0\n\t%1:%0\n\t\t\nc0:$A\n");
    Checks.due("a recipe is no rule", desk.sources(4), 0);
    Checks.due("a recipe is no macro line", desk.sources(8), 0);
    Checks.stamp(desk, "d0", 1);
    Checks.makeFails(desk, "d1", Checks.NO_ELEMENT);
  }

  private static void lineBeforeRecipe() {
    Checks.sentence("the line before it must be a rule, a pattern or a recipe");
    Checks.readsAs("a0:\n\tx\n", 1);
    Checks.readsAs("%1:%0\n\tx\n", 0);
    Checks.readsAs("a0:\n\tx\n\ty\n\tz\n", 1);
    Checks.readFails("\tx\n", Checks.ARGUMENT, 1);
    String[] wrong = {"", " ", "A=", "A=a0"};
    for (String line : wrong) {
      Checks.readFails(line + "\n\tx\n", Checks.ARGUMENT, 2);
      Checks.readFails("a0:\n\tx\n" + line + "\n\tx\n", Checks.ARGUMENT, 4);
    }
  }

  private static void lastValue() {
    Checks.sentence("The VALUE of a macro is the phrase of the last macro line with its letter, wherever that stands");
    String[] texts = {"A=b0\nA=c0\na0:$A\n", "A=b0\na0:$A\nA=c0\n", "a0:$A\nA=b0\nA=c0\n", "A=c0\na0:$A\nB=b0\n",
      "a0:$A\n\tA=b0\nA=c0\n\n", "A=$A\na0:$A\nA=c0\n"};
    for (String text : texts) {
      Checks.due("sources(0) of " + Checks.shown(text), Checks.deskThatRead(text).sources(0), Checks.files("c0"));
    }
    Checks.due("a last value of nothing", Checks.deskThatRead("A=b0\na0:$A\nA=\n").sources(0), 0);
    Checks.due("two rules have the same one", Checks.deskThatRead("A=b0\na0:$A\nA=c0\na1:$A\n").sources(0), 1 << 8);
  }

  private static void letterWithoutValue() {
    Checks.sentence("a letter without one has the empty phrase");
    for (char letter = 'A'; letter <= 'Z'; letter++) {
      RebuildDesk desk = Checks.deskThatRead("a0:b0$" + letter + "\n$" + letter + ":c0\n\tx\n");
      Checks.due("sources(0) with $" + letter, desk.sources(0), Checks.files("b0"));
      for (int file = 1; file < 32; file++) {
        Checks.due("no target by $" + letter, desk.sources(file) + desk.recipe(file), 0);
      }
    }
    RebuildDesk desk = Checks.deskThatRead("A=b0\na0:$A\n");
    desk.erase();
    Checks.write(desk, "a0:$A\n");
    Checks.due("read() once its line is gone", Checks.read(desk), "1");
    Checks.due("its value is gone", desk.sources(0), 0);
  }

  private static void expandedAgainAndAgain() {
    Checks.sentence("putting for each macro use what the value of the macro is expanded to, again and again");
    String up = chain('A', 1);
    String down = chain('Z', -1);
    Checks.due("25 steps up", Checks.deskThatRead(up + "Z=h3\na0:$A\n").sources(0), 1 << 31);
    Checks.due("25 steps down", Checks.deskThatRead(down + "A=h3\na0:$Z\n").sources(0), 1 << 31);
    Checks.due("targets by 25 steps", Checks.deskThatRead("$A:b0\n" + up + "Z=h3\n").sources(31), 16);
    RebuildDesk desk = Checks.deskThatRead("A=a0$B$B\nB=a1$C\nC=a2\nb0:$A\nb1:$B\nb2:$C\n");
    Checks.due("sources by A", desk.sources(4), 7);
    Checks.due("sources by B", desk.sources(5), 6);
    Checks.due("sources by C", desk.sources(6), 4);
  }

  /** 25 macro lines: from A to Z each use the next letter, or from Z to A each the one before it. */
  private static String chain(char first, int step) {
    StringBuilder lines = new StringBuilder();
    for (int i = 0; i < 25; i++) {
      lines.append((char) (first + i * step)).append("=$").append((char) (first + (i + 1) * step)).append('\n');
    }
    return lines.toString();
  }

  private static void leading() {
    Checks.sentence("A macro LEADS to those used in its value and to those they lead to");
    String up = chain('A', 1);
    Checks.readsAs(up + "a0:$A\n", 1);
    Checks.readFails(up + "Z=$Z\na0:$A\n", Checks.STATE, 27);
    Checks.readFails(up + "Z=$A\na0:$M\n", Checks.STATE, 27);
    Checks.readFails(up + "Z=b0$Y\na0:$A\n", Checks.STATE, 27);
    String down = chain('Z', -1);
    Checks.readsAs(down + "a0:$Z\n", 1);
    Checks.readFails(down + "A=$A\na0:$Z\n", Checks.STATE, 27);
    Checks.readFails(down + "A=$Z\na0:$M\n", Checks.STATE, 27);
    Checks.readFails(down + "A=b0$B\na0:$Z\n", Checks.STATE, 27);
    for (char middle = 'A'; middle <= 'Z'; middle++) {
      char before = middle == 'Z' ? 'A' : (char) (middle + 1);
      char behind = middle == 'A' ? 'Z' : (char) (middle - 1);
      String steps = before + "=$" + middle + "\n" + middle + "=$" + behind + "\n" + behind + "=$" + behind + "\n";
      Checks.readFails(steps + "a0:$" + before + "\n", Checks.STATE, 4);
      Checks.readsAs(steps + behind + "=b0\na0:$" + before + "\n", 1);
    }
    // What leads to Z is no concern of Z's own.
    Checks.readsAs("A=$A$Z\nZ=b0\na0:$Z\n", 1);
    Checks.readsAs("A=$B$C\nB=$D\nC=$D\nD=b0\na0:$A$A\n", 1);
  }

  private static void targetsAndSources() {
    Checks.sentence("A rule's TARGETS are the files named in what stands before its colon, expanded, its SOURCES those behind it");
    StringBuilder all = new StringBuilder();
    for (int file = 0; file < 32; file++) {
      all.append(Checks.name(file));
    }
    RebuildDesk full = Checks.deskThatRead("A=" + all + "\n$A:$A\n");
    RebuildDesk targets = Checks.deskThatRead("A=" + all + "\n$A:\n\tx\n");
    RebuildDesk sources = Checks.deskThatRead("A=" + all + "\n$B:$A\n\tx\n");
    for (int file = 0; file < 32; file++) {
      Checks.due("sources(" + file + ") of all", full.sources(file), -1);
      Checks.due("recipe(" + file + ") without one", full.recipe(file), 0);
      Checks.due("sources(" + file + ") of none", targets.sources(file), 0);
      Checks.due("recipe(" + file + ") of all targets", targets.recipe(file), 1);
      Checks.due("sources(" + file + ") without a target", sources.sources(file), 0);
      Checks.due("recipe(" + file + ") without a target", sources.recipe(file), 0);
    }
    RebuildDesk desk = Checks.deskThatRead("a0 $A:b0 $B\nA=a1\nB=b1\n");
    for (int file = 0; file < 32; file++) {
      Checks.due("sources(" + file + ")", desk.sources(file), file < 2 ? Checks.files("b0", "b1") : 0);
    }
  }

  private static void namedTwice() {
    Checks.sentence("naming a file twice is nothing more");
    String[] texts = {"a0a0:b0b0\n\tx\n", "a0 a0a0:b0 b0b0\n\tx\n", "A=a0\n$A$A:b0 $B\n\tx\nB=b0\n", "a0$A:b0b0\n\tx\nA=a0 a0\n"};
    for (String text : texts) {
      RebuildDesk desk = Checks.deskThatRead(text);
      Checks.due("sources(0) of " + Checks.shown(text), desk.sources(0), Checks.files("b0"));
      Checks.due("recipe(0) of " + Checks.shown(text), desk.recipe(0), 1);
    }
    RebuildDesk desk = Checks.deskThatRead("a0a0:b0b0\n\tx\n");
    Checks.stamp(desk, "b0", 1);
    Checks.makes(desk, "a0", "a0/1");
    Checks.due("its stamp", desk.stampOf(0), 2);
  }

  private static void recipeOfARule() {
    Checks.sentence("It HAS A RECIPE if the line behind it is a recipe");
    RebuildDesk desk = Checks.deskThatRead("a0:\na1:\n\tx\n\ty\na2:\n\na3:\nA=\nb0:\n%1:%0\n\tx\nb1:\n");
    Checks.due("recipes of a0 to b1", "" + desk.recipe(0) + desk.recipe(1) + desk.recipe(2) + desk.recipe(3)
        + desk.recipe(4) + desk.recipe(5), "010000");
    desk = Checks.deskThatRead("h2:\nh3:\n\t\n");
    Checks.due("the last line is a recipe", "" + desk.recipe(30) + desk.recipe(31), "01");
    desk.erase();
    Checks.write(desk, "h2:\nh3:\n");
    Checks.read(desk);
    Checks.due("what stood behind the text before", desk.recipe(31), 0);
  }

  private static void rulesRead() {
    Checks.sentence("THE RULES READ are those of the latest read() that threw nothing; at first there are none");
    RebuildDesk desk = new RebuildDesk();
    Checks.due("sources at first", desk.sources(0), 0);
    Checks.write(desk, "a0:b0\n\tx\n");
    Checks.due("sources before read()", desk.sources(0) + desk.recipe(0), 0);
    Checks.read(desk);
    Checks.due("sources behind read()", desk.sources(0), 16);
    Checks.write(desk, "a0:c0\n");
    Checks.due("sources behind a write", desk.sources(0), 16);
    Checks.write(desk, "x");
    Checks.due("a read() that throws", Checks.read(desk), Checks.ARGUMENT);
    Checks.due("sources behind it", desk.sources(0), 16);
    desk.erase();
    Checks.due("sources behind erase()", desk.sources(0), 16);
    Checks.due("a read() of nothing", Checks.read(desk), "0");
    Checks.due("sources behind it", desk.sources(0) + desk.recipe(0), 0);
  }

  private static void explicitSources() {
    Checks.sentence("The EXPLICIT sources of a file are those of all rules of which it is a target");
    RebuildDesk desk = Checks.deskThatRead("a0:b0\na1:c0\na0 a1:d0\n\tx\na0:b0 a0\na0:\nh3:e0\n");
    Checks.due("of four rules", desk.sources(0), Checks.files("a0", "b0", "d0"));
    Checks.due("of two rules", desk.sources(1), Checks.files("c0", "d0"));
    Checks.due("of no rule", desk.sources(2), 0);
    Checks.due("of the last rule", desk.sources(31), Checks.files("e0"));
  }

  private static void explicitRecipe() {
    Checks.sentence("it has an EXPLICIT recipe if one of these has a recipe");
    Checks.due("the first of two", Checks.deskThatRead("a0:\n\tx\na0:b0\n").recipe(0), 1);
    Checks.due("the last of two", Checks.deskThatRead("a0:\na0:b0\n\tx\n").recipe(0), 1);
    Checks.due("the middle one of three", Checks.deskThatRead("a0:\na0:b0\n\tx\na0:c0\n").recipe(0), 1);
    Checks.due("none of two", Checks.deskThatRead("a0:\na0:b0\nb0:\n\tx\n").recipe(0), 0);
    Checks.due("a source of one that has", Checks.deskThatRead("a0:b0\n\tx\n").recipe(4), 0);
    RebuildDesk desk = Checks.deskThatRead("a0:\n\tx\nb0:\n\tx\nc0:\nd0:\n\tx\n");
    Checks.due("several files", "" + desk.recipe(0) + desk.recipe(4) + desk.recipe(8) + desk.recipe(12), "1101");
  }
}
