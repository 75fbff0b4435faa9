/** Promises 9 to 13: stamp, stampOf, make, ran, reason. */
public final class MakeTest {
  public static void main(String[] args) {
    stamps();
    reasons();
    orderOfRuns();
    patterns();
    chainsOfPatterns();
    filesWithoutRecipe();
    wrongGoals();
    loops();
    missingFiles();
    stampsThatWouldBeTooGreat();
    theFirstThatApplies();
    reports();
    Checks.end();
  }

  private static void stamps() {
    RebuildDesk desk = new RebuildDesk();
    for (int file = 0; file < 32; file++) {
      Checks.due("stamp", desk.stamp(file, 100 + file), true);
    }
    for (int file = 0; file < 32; file++) {
      Checks.due("stampOf(" + file + ")", desk.stampOf(file), 100 + file);
    }
    int[] none = {-1, 32, 64, Integer.MIN_VALUE, Integer.MAX_VALUE};
    for (int n : none) {
      Checks.due("stamp(" + n + ", 1)", desk.stamp(n, 1), false);
      Checks.due("stampOf(" + n + ")", desk.stampOf(n), -1);
    }
    int[] wrong = {-1, 1000000001, Integer.MIN_VALUE, Integer.MAX_VALUE};
    for (int t : wrong) {
      Checks.due("stamp(3, " + t + ")", desk.stamp(3, t), false);
      Checks.due("stampOf(3) behind it", desk.stampOf(3), 103);
    }
    int[] right = {1000000000, 0, 1};
    for (int t : right) {
      Checks.due("stamp(3, " + t + ")", desk.stamp(3, t), true);
      Checks.due("stampOf(3) behind it", desk.stampOf(3), t);
    }
  }

  private static void reasons() {
    RebuildDesk desk = Checks.deskThatRead("a0:b0 c0\n\tx\nb0:d0\n\ty\n");
    Checks.stamp(desk, "c0", 5);
    Checks.stamp(desk, "d0", 9);
    Checks.makes(desk, "a0", "b0/1 a0/1");
    Checks.due("the first new stamp", desk.stampOf(4), 10);
    Checks.due("the second new stamp", desk.stampOf(0), 11);
    Checks.makes(desk, "a0", "");
    Checks.stamp(desk, "d0", 10);
    Checks.makes(desk, "a0", "");
    Checks.stamp(desk, "d0", 11);
    Checks.makes(desk, "a0", "b0/3 a0/2");
    Checks.due("stamps behind it", desk.stampOf(4) + " " + desk.stampOf(0), "12 13");
    Checks.stamp(desk, "c0", 14);
    Checks.makes(desk, "a0", "a0/3");
    Checks.stamp(desk, "c0", 100);
    Checks.stamp(desk, "b0", 0);
    Checks.makes(desk, "a0", "b0/1 a0/2");
    Checks.stamp(desk, "a0", 0);
    Checks.stamp(desk, "b0", 0);
    Checks.makes(desk, "a0", "b0/1 a0/1");
    Checks.stamp(desk, "b0", 104);
    Checks.stamp(desk, "a0", 0);
    Checks.makes(desk, "a0", "a0/1");
    Checks.stamp(desk, "h3", 5000);
    Checks.stamp(desk, "a0", 0);
    Checks.makes(desk, "a0", "a0/1");
    Checks.due("the greatest stamp of all 32 files counts", desk.stampOf(0), 5001);
    Checks.makes(desk, "b0", "");
    Checks.makes(desk, "c0", "");
    desk = Checks.deskThatRead("a0:\n\tx\n");
    Checks.makes(desk, "a0", "a0/1");
    Checks.due("the first stamp of all", desk.stampOf(0), 1);
    Checks.makes(desk, "a0", "");
  }

  private static void orderOfRuns() {
    RebuildDesk desk = Checks.deskThatRead("a0:h0 b0 c0\n\tx\nb0:g0\n\tx\nc0:\n\tx\ng0:\n\tx\nh0:\n\tx\n");
    Checks.makes(desk, "a0", "c0/1 g0/1 b0/1 h0/1 a0/1");
    Checks.due("the stamps go by the order", desk.stampOf(8) + " " + desk.stampOf(0), "1 5");
    desk = Checks.deskThatRead("h0:a0 g0\n\tx\na0:b0\nb0:c0\n\tx\nc0:\n\tx\ng0:a0\n\tx\n");
    Checks.stamp(desk, "a0", 7);
    Checks.stamp(desk, "b0", 6);
    Checks.stamp(desk, "g0", 6);
    Checks.stamp(desk, "h0", 8);
    Checks.makes(desk, "h0", "c0/1 b0/2 g0/3 h0/2");
    desk = Checks.deskThatRead("a0:d0\n\tx\nd0:c0\nc0:\n\tx\n");
    Checks.stamp(desk, "d0", 1);
    Checks.makes(desk, "a0", "c0/1 a0/1");
    desk = Checks.deskThatRead("h3:h2\n\tx\nh2:h1\n\tx\nh1:h0\n\tx\nh0:a0\n\tx\na0:\n\tx\nb0:h3\n\tx\n");
    Checks.makes(desk, "h3", "a0/1 h0/1 h1/1 h2/1 h3/1");
    Checks.makes(desk, "b0", "b0/1");
    // All 32 files in one chain: patterns within each stem, a rule from one stem to the next.
    desk = Checks.deskThatRead("%1:%0\n\t\n%2:%1\n\t\n%3:%2\n\t\na0:b3\n\t\nb0:c3\n\t\nc0:d3\n\t\nd0:e3\n\t\n"
        + "e0:f3\n\t\nf0:g3\n\t\ng0:h3\n\t\nh0:\n\t\n");
    Checks.due("make of a chain of all files", Checks.make(desk, 3), "32");
    for (int i = 0; i < 32; i++) {
      int file = 28 - 4 * (i / 4) + i % 4;
      Checks.due("the chain's run " + i, desk.ran(i), file);
      Checks.due("the chain's stamp " + i, desk.stampOf(file), i + 1);
      Checks.due("the chain's reason " + i, desk.reason(file), 1);
    }
    Checks.due("no run behind the chain", desk.ran(32), -1);
    desk.stamp(Checks.file("h0"), 0);
    Checks.due("make of the chain again", Checks.make(desk, 3), "32");
    Checks.due("the reason goes through the chain", desk.reason(3) + " " + desk.reason(28), "2 1");
  }

  private static void patterns() {
    RebuildDesk desk = Checks.deskThatRead("%1:%0\n\tx\n%1:%2\n\ty\n");
    Checks.stamp(desk, "a0", 1);
    Checks.stamp(desk, "a2", 1);
    Checks.stamp(desk, "b2", 2);
    Checks.makes(desk, "a1", "a1/1");
    Checks.stamp(desk, "a2", 50);
    Checks.makes(desk, "a1", "");
    Checks.stamp(desk, "a0", 51);
    Checks.makes(desk, "a1", "a1/3");
    Checks.makes(desk, "b1", "b1/1");
    Checks.stamp(desk, "b2", 90);
    Checks.makes(desk, "b1", "b1/3");
    Checks.stamp(desk, "b0", 89);
    Checks.makes(desk, "b1", "");
    Checks.makeFails(desk, "c1", Checks.NO_ELEMENT);
    Checks.makeFails(desk, "c0", Checks.NO_ELEMENT);
    Checks.makes(desk, "a0", "");
    desk = Checks.deskThatRead("%1:%2\n\ty\n%1:%0\n\tx\n");
    Checks.stamp(desk, "a0", 3);
    Checks.stamp(desk, "a2", 1);
    Checks.stamp(desk, "a1", 2);
    Checks.makes(desk, "a1", "");
    desk = Checks.deskThatRead("a1:b0\n\tx\n%1:%0\n\ty\nb1:c0\n");
    Checks.stamp(desk, "b0", 1);
    Checks.stamp(desk, "c0", 4);
    Checks.stamp(desk, "a1", 2);
    Checks.stamp(desk, "a0", 5);
    Checks.makes(desk, "a1", "");
    Checks.stamp(desk, "b1", 3);
    Checks.makes(desk, "b1", "b1/3");
    Checks.stamp(desk, "c0", 5);
    Checks.stamp(desk, "b0", 7);
    Checks.makes(desk, "b1", "b1/3");
    Checks.stamp(desk, "c0", 0);
    Checks.makeFails(desk, "b1", Checks.NO_ELEMENT);
    // A file that is there takes a pattern all the same.
    desk = Checks.deskThatRead("%3:%0\n\tx\n");
    Checks.stamp(desk, "h3", 1);
    Checks.makes(desk, "h3", "");
    Checks.stamp(desk, "h0", 2);
    Checks.makes(desk, "h3", "h3/3");
  }

  private static void chainsOfPatterns() {
    RebuildDesk desk = Checks.deskThatRead("%3:%2\n\tx\n%2:%1\n\tx\n%1:%0\n\tx\n");
    Checks.stamp(desk, "d0", 1);
    Checks.makes(desk, "d3", "d1/1 d2/1 d3/1");
    Checks.makeFails(desk, "e3", Checks.NO_ELEMENT);
    // Only the pattern later in the text can be used, since what the first needs is not available.
    desk = Checks.deskThatRead("%3:%2\n\tx\n%3:%1\n\tx\n%1:%0\n\tx\n");
    Checks.stamp(desk, "d0", 1);
    Checks.makes(desk, "d3", "d1/1 d3/1");
    // Two patterns that lead to each other make nothing available by themselves.
    desk = Checks.deskThatRead("%1:%2\n\tx\n%2:%1\n\tx\n%1:%0\n\tx\n");
    Checks.makeFails(desk, "a1", Checks.NO_ELEMENT);
    Checks.makeFails(desk, "a2", Checks.NO_ELEMENT);
    Checks.stamp(desk, "a0", 1);
    // Now both are available, and the first pattern of each closes the ring.
    Checks.makeFails(desk, "a1", Checks.STATE);
    Checks.makeFails(desk, "a2", Checks.STATE);
    desk = Checks.deskThatRead("%1:%1\n\tx\n");
    Checks.makeFails(desk, "a1", Checks.NO_ELEMENT);
    Checks.stamp(desk, "a1", 1);
    Checks.makeFails(desk, "a1", Checks.STATE);
    desk = Checks.deskThatRead("%2:%0\n\tx\n%0:%1\n\tx\n");
    Checks.stamp(desk, "a1", 1);
    Checks.stamp(desk, "h1", 1);
    Checks.makes(desk, "a2", "a0/1 a2/1");
    Checks.makes(desk, "h2", "h0/1 h2/1");
    // An explicit recipe makes a file available that is not there.
    desk = Checks.deskThatRead("%1:%0\n\tx\na0:\n\tx\n");
    Checks.makes(desk, "a1", "a0/1 a1/1");
    // Explicit sources that can be made are no recipe, and make nothing available.
    desk = Checks.deskThatRead("%1:%0\n\tx\na0:b0\nb0:\n\tx\n");
    Checks.makeFails(desk, "a1", Checks.NO_ELEMENT);
    Checks.makeFails(desk, "a0", Checks.NO_ELEMENT);
  }

  private static void filesWithoutRecipe() {
    RebuildDesk desk = Checks.deskThatRead("a0:b0\nb0:c0\n\tx\nd0:a0\n\tx\n");
    Checks.stamp(desk, "a0", 1);
    Checks.stamp(desk, "c0", 1);
    Checks.stamp(desk, "d0", 1);
    // b0 is run for a0, which is never out of date itself: so d0 is not either.
    Checks.makes(desk, "d0", "b0/1");
    Checks.makes(desk, "a0", "");
    Checks.stamp(desk, "c0", 9);
    Checks.makes(desk, "a0", "b0/3");
    Checks.due("a file without a recipe keeps its stamp", desk.stampOf(0), 1);
  }

  private static void wrongGoals() {
    RebuildDesk desk = Checks.deskThatRead("a0:\n\tx\n");
    int[] none = {-1, 32, 33, Integer.MIN_VALUE, Integer.MAX_VALUE};
    for (int n : none) {
      Checks.due("make(" + n + ")", Checks.make(desk, n), Checks.BOUNDS);
    }
    Checks.due("nothing was run", desk.ran(0), -1);
    Checks.due("nothing was stamped", desk.stampOf(0), 0);
  }

  private static void loops() {
    RebuildDesk desk = Checks.deskThatRead("a0:a0\nb0:c0\nc0:b0\nd0:c0\ne0:f0\n\tx\nf0:g0\ng0:f0\nh0:h1\n\tx\nh1:\n\tx\n");
    for (int file = 0; file < 32; file++) {
      desk.stamp(file, file == 28 || file == 29 ? 0 : 5);
    }
    Checks.makeFails(desk, "a0", Checks.STATE);
    Checks.makeFails(desk, "b0", Checks.STATE);
    Checks.makeFails(desk, "c0", Checks.STATE);
    Checks.makeFails(desk, "d0", Checks.STATE);
    Checks.makeFails(desk, "e0", Checks.STATE);
    Checks.makes(desk, "h0", "h1/1 h0/1");
    Checks.makes(desk, "a1", "");
    Checks.makeFails(desk, "d0", Checks.STATE);
    Checks.due("the runs stay", Checks.runs(desk), "");
    desk = Checks.deskThatRead("a1:b1\n%1:%0\n\tx\na0:a1\nb1:\n");
    Checks.stamp(desk, "b1", 1);
    Checks.stamp(desk, "a1", 1);
    Checks.makeFails(desk, "a0", Checks.NO_ELEMENT);
    Checks.stamp(desk, "a0", 1);
    Checks.makeFails(desk, "a0", Checks.STATE);
    Checks.makeFails(desk, "a1", Checks.STATE);
    Checks.makes(desk, "b1", "");
  }

  private static void missingFiles() {
    RebuildDesk desk = Checks.deskThatRead("a0:b0\n\tx\nb0:c0\nd0:a0\n\tx\ne0:\n\tx\n");
    Checks.makeFails(desk, "a0", Checks.NO_ELEMENT);
    Checks.stamp(desk, "b0", 1);
    Checks.makeFails(desk, "d0", Checks.NO_ELEMENT);
    Checks.stamp(desk, "c0", 1);
    Checks.makes(desk, "e0", "e0/1");
    Checks.stamp(desk, "b0", 0);
    Checks.makeFails(desk, "d0", Checks.NO_ELEMENT);
    Checks.due("what throws leaves the runs", Checks.runs(desk), "e0/1");
    Checks.due("what throws leaves the stamps", desk.stampOf(0) + " " + desk.stampOf(12), "0 0");
    Checks.stamp(desk, "b0", 1);
    Checks.makes(desk, "d0", "a0/1 d0/1");
    Checks.makeFails(desk, "h3", Checks.NO_ELEMENT);
    Checks.stamp(desk, "a0", 1000);
    // Up to date with stamps, but a source of a source is gone.
    Checks.stamp(desk, "c0", 0);
    Checks.makeFails(desk, "d0", Checks.NO_ELEMENT);
  }

  private static void stampsThatWouldBeTooGreat() {
    RebuildDesk desk = Checks.deskThatRead("a0:b0\n\tx\nb0:\n\tx\n");
    Checks.stamp(desk, "h0", 999999998);
    Checks.makes(desk, "a0", "b0/1 a0/1");
    Checks.due("the greatest stamp", desk.stampOf(0), 1000000000);
    Checks.makes(desk, "a0", "");
    Checks.stamp(desk, "b0", 0);
    Checks.makeFails(desk, "a0", Checks.ARITHMETIC);
    Checks.due("no stamp was given", desk.stampOf(4) + " " + desk.stampOf(0), "0 1000000000");
    Checks.due("no runs are told", Checks.runs(desk), "");
    Checks.stamp(desk, "h0", 1);
    Checks.stamp(desk, "a0", 999999999);
    Checks.makeFails(desk, "a0", Checks.ARITHMETIC);
    Checks.due("not even the first stamp was given", desk.stampOf(4), 0);
    Checks.makes(desk, "b0", "b0/1");
    Checks.due("one stamp still fits", desk.stampOf(4), 1000000000);
    Checks.makeFails(desk, "a0", Checks.ARITHMETIC);
    Checks.due("the runs stay", Checks.runs(desk), "b0/1");
  }

  private static void theFirstThatApplies() {
    RebuildDesk desk = Checks.deskThatRead("a0:b0 c0\nb0:b0\nd0:c0 e0\n\tx\ne0:\n\tx\n");
    Checks.stamp(desk, "h0", 1000000000);
    Checks.makeFails(desk, "a0", Checks.STATE);
    Checks.makeFails(desk, "d0", Checks.NO_ELEMENT);
    Checks.makeFails(desk, "e0", Checks.ARITHMETIC);
    Checks.due("make(40)", Checks.make(desk, 40), Checks.BOUNDS);
  }

  private static void reports() {
    RebuildDesk desk = Checks.deskThatRead("a0:b0\n\tx\nb0:\n\tx\nc0:\n\tx\n");
    Checks.makes(desk, "a0", "b0/1 a0/1");
    int[] none = {-1, 2, 31, 32, Integer.MIN_VALUE, Integer.MAX_VALUE};
    for (int i : none) {
      Checks.due("ran(" + i + ")", desk.ran(i), -1);
    }
    Checks.due("reason(-1)", desk.reason(-1), -1);
    Checks.due("reason(32)", desk.reason(32), -1);
    Checks.due("reason(MIN)", desk.reason(Integer.MIN_VALUE), -1);
    Checks.due("reason(31)", desk.reason(31), 0);
    Checks.makes(desk, "c0", "c0/1");
    Checks.due("old reasons are gone", desk.reason(0) + desk.reason(4), 0);
    Checks.due("old runs are gone", desk.ran(1), -1);
    desk.stamp(8, 77);
    desk.erase();
    Checks.read(desk);
    Checks.due("stamp, erase and read leave the runs", Checks.runs(desk), "c0/1");
    Checks.makes(desk, "c0", "");
    Checks.due("a make that runs nothing counts", desk.reason(8), 0);
  }
}
