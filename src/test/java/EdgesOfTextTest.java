/** The sentences of promises 1 to 4 that name an edge: a test for each. */
public final class EdgesOfTextTest {
  public static void main(String[] args) {
    newObject();
    objectsOfTheirOwn();
    upToEight();
    fromTheLowestOn();
    zeroEndsThem();
    codeAbove127();
    moreThan240();
    refusedForBoth();
    refusedWriteChangesNothing();
    eraseAnswersTheLength();
    eraseMakesRoom();
    eraseLeavesTheRest();
    length();
    Checks.end();
  }

  /** Eight characters, all the same one but for the one at the place given. */
  private static long eightWith(int place, int code) {
    long chars = 0;
    for (int i = 0; i < 8; i++) {
      chars |= (long) (i == place ? code : 'x') << (8 * i);
    }
    return chars;
  }

  private static void newObject() {
    Checks.sentence("An empty text, no rules, all stamps 0, nothing made.");
    RebuildDesk desk = new RebuildDesk();
    Checks.due("length()", desk.length(), 0);
    Checks.due("fault()", desk.fault(), 0);
    for (int n = 0; n < 32; n++) {
      Checks.due("sources(" + n + ")", desk.sources(n), 0);
      Checks.due("recipe(" + n + ")", desk.recipe(n), 0);
      Checks.due("stampOf(" + n + ")", desk.stampOf(n), 0);
      Checks.due("ran(" + n + ")", desk.ran(n), -1);
      Checks.due("reason(" + n + ")", desk.reason(n), 0);
    }
    Checks.due("erase()", desk.erase(), 0);
    Checks.due("read()", Checks.read(desk), "0");
    desk = new RebuildDesk();
    for (int n = 0; n < 32; n++) {
      Checks.due("make(" + n + ") without a rule", Checks.make(desk, n), Checks.NO_ELEMENT);
      desk.stamp(n, 1);
      Checks.due("make(" + n + ") of what is there", Checks.make(desk, n), "0");
    }
  }

  private static void objectsOfTheirOwn() {
    Checks.sentence("An empty text, no rules, all stamps 0, nothing made.");
    String first = Checks.state(new RebuildDesk());
    RebuildDesk used = Checks.deskThatRead("a0:b0\n\tx\n%1:%0\n\tx\n");
    Checks.stamp(used, "b0", 1);
    Checks.makes(used, "a1", "a0/1 a1/1");
    Checks.write(used, "x");
    Checks.read(used);
    RebuildDesk other = new RebuildDesk();
    Checks.due("a new one behind a used one", Checks.state(other), first);
    Checks.write(other, "\n");
    Checks.read(other);
    Checks.due("the used one's sources", used.sources(0), 16);
    Checks.due("the used one's fault", used.fault(), 5);
    Checks.due("the used one's runs", Checks.runs(used), "a0/1 a1/1");
  }

  private static void upToEight() {
    Checks.sentence("Up to eight characters are put behind the text");
    for (int count = 0; count <= 8; count++) {
      RebuildDesk desk = Checks.deskWith("abc");
      Checks.due("write of " + count, desk.write(Checks.pack("x".repeat(count))), count);
      Checks.due("length() behind it", desk.length(), 3 + count);
    }
    RebuildDesk desk = new RebuildDesk();
    Checks.due("write of a0", desk.write(Checks.pack("a0")), 2);
    Checks.due("write of :b0", desk.write(Checks.pack(":b0")), 3);
    Checks.due("write of nothing", desk.write(0), 0);
    Checks.due("write of a line end", desk.write(10), 1);
    Checks.due("read()", Checks.read(desk), "1");
    Checks.due("sources(0)", desk.sources(0), 16);
  }

  private static void fromTheLowestOn() {
    Checks.sentence("taken from the lowest 8 bits of chars on");
    RebuildDesk desk = new RebuildDesk();
    // "a0:b1c2" and a line end.
    Checks.due("write of eight", desk.write(0x0A_32_63_31_62_3A_30_61L), 8);
    Checks.due("read()", Checks.read(desk), "1");
    Checks.due("sources(0)", desk.sources(0), Checks.files("b1", "c2"));
  }

  private static void zeroEndsThem() {
    Checks.sentence("a value of 0 ends them: how many there were");
    for (int place = 0; place < 8; place++) {
      RebuildDesk desk = new RebuildDesk();
      Checks.due("write with a 0 at " + place, desk.write(eightWith(place, 0)), place);
      Checks.due("length() behind it", desk.length(), place);
    }
    Checks.due("write without a 0", new RebuildDesk().write(eightWith(0, 'x')), 8);
    // Behind the 0 there is none of them: so a code above 127 there is nothing wrong.
    RebuildDesk desk = new RebuildDesk();
    Checks.due("128 behind a 0", desk.write(0x80_00L), 0);
    Checks.due("all bits behind a 0", desk.write(-256L), 0);
    Checks.due("255 in the highest place behind a 0", desk.write(0xFF_00_6E_65_76_65_73_20L), 6);
    Checks.due("length()", desk.length(), 6);
    desk = Checks.deskWith(" ".repeat(239));
    Checks.due("one that fits, and more behind a 0", desk.write(0x20_20_20_00_0AL), 1);
    Checks.due("read()", Checks.read(desk), "0");
  }

  private static void codeAbove127() {
    Checks.sentence("-1 (and nothing changes) if one of them is above 127");
    int[] wrong = {128, 129, 192, 254, 255};
    for (int place = 0; place < 8; place++) {
      RebuildDesk desk = Checks.deskWith("a0:");
      for (int code : wrong) {
        Checks.due("write with " + code + " at " + place, desk.write(eightWith(place, code)), -1);
        Checks.due("length() behind it", desk.length(), 3);
      }
      Checks.due("write with 127 at " + place, desk.write(eightWith(place, 127)), 8);
      Checks.due("length() behind it", desk.length(), 11);
    }
    RebuildDesk desk = new RebuildDesk();
    Checks.due("write(-1)", desk.write(-1L), -1);
    Checks.due("write(MIN_VALUE)", desk.write(Long.MIN_VALUE), 0);
    Checks.due("write of a right one and a wrong one", desk.write(0x80_61L), -1);
    Checks.due("write of a wrong one and a 0", desk.write(0x00_80L), -1);
    Checks.due("length()", desk.length(), 0);
  }

  private static void moreThan240() {
    Checks.sentence("or the text would have more than 240 characters");
    for (int before = 231; before <= 240; before++) {
      for (int count = 0; count <= 8; count++) {
        RebuildDesk desk = Checks.deskWith(" ".repeat(before));
        boolean fits = before + count <= 240;
        Checks.due("write of " + count + " to " + before, desk.write(Checks.pack("x".repeat(count))), fits ? count : -1);
        Checks.due("length() behind it", desk.length(), fits ? before + count : before);
      }
    }
  }

  private static void refusedForBoth() {
    Checks.sentence("-1 (and nothing changes) if one of them is above 127, or the text would have more than 240 characters");
    RebuildDesk desk = Checks.deskWith(" ".repeat(240));
    Checks.due("a wrong code and no room", desk.write(128), -1);
    Checks.due("eight wrong codes and no room", desk.write(-1L), -1);
    Checks.due("nothing and no room", desk.write(0), 0);
    Checks.due("length()", desk.length(), 240);
  }

  private static void refusedWriteChangesNothing() {
    Checks.sentence("and nothing changes");
    RebuildDesk desk = Checks.deskThatRead("a0:b0\n\tx\n");
    Checks.stamp(desk, "b0", 1);
    Checks.makes(desk, "a0", "a0/1");
    Checks.write(desk, "c0:");
    String before = Checks.state(desk);
    Checks.due("write of a wrong code", desk.write(Checks.pack("d0\nh0:\u0080")), -1);
    Checks.due("all answers behind it", Checks.state(desk), before);
    Checks.due("write of what ends the text", desk.write(Checks.pack("e0\n")), 3);
    Checks.due("read()", Checks.read(desk), "2");
    Checks.due("sources of c0", desk.sources(8), Checks.files("e0"));
    desk = Checks.deskWith("c0:" + " ".repeat(231));
    Checks.due("write of too much", desk.write(Checks.pack("d0d0d0\n")), -1);
    Checks.due("length() behind it", desk.length(), 234);
    Checks.due("write of what still fits", desk.write(Checks.pack("   e0\n")), 6);
    Checks.due("read()", Checks.read(desk), "1");
    Checks.due("sources of c0", desk.sources(8), Checks.files("e0"));
  }

  private static void eraseAnswersTheLength() {
    Checks.sentence("The text becomes empty: how many characters it had.");
    int[] sizes = {0, 1, 8, 239, 240};
    for (int size : sizes) {
      RebuildDesk desk = Checks.deskWith("x".repeat(size));
      Checks.due("erase() of " + size, desk.erase(), size);
      Checks.due("length() behind it", desk.length(), 0);
      Checks.due("erase() again", desk.erase(), 0);
      Checks.due("read() behind it", Checks.read(desk), "0");
      Checks.due("fault() behind it", desk.fault(), 0);
    }
  }

  private static void eraseMakesRoom() {
    Checks.sentence("The text becomes empty");
    RebuildDesk desk = Checks.deskWith("x".repeat(240));
    desk.erase();
    Checks.write(desk, "a0:b0\n" + " ".repeat(233) + "\n");
    Checks.due("length() of a full text again", desk.length(), 240);
    Checks.due("write of one more", desk.write(10), -1);
    Checks.due("read()", Checks.read(desk), "1");
    desk.erase();
    Checks.write(desk, "a1:\n");
    Checks.due("read() sees nothing of the longer text before", Checks.read(desk), "1");
    Checks.due("sources(0)", desk.sources(0), 0);
  }

  private static void eraseLeavesTheRest() {
    Checks.sentence("The rules read stay.");
    RebuildDesk desk = Checks.deskThatRead("a0:b0\n\tx\n%1:%0\n\tx\n");
    Checks.stamp(desk, "b0", 1);
    Checks.makes(desk, "a0", "a0/1");
    Checks.write(desk, "x");
    Checks.due("read()", Checks.read(desk), Checks.ARGUMENT);
    String before = Checks.state(desk).replace("length 19", "length 0");
    Checks.due("erase()", desk.erase(), 19);
    Checks.due("all other answers", Checks.state(desk), before);
    Checks.due("fault() stays", desk.fault(), 5);
    Checks.makes(desk, "a1", "a1/1");
  }

  private static void length() {
    Checks.sentence("How many characters the text has.");
    RebuildDesk desk = new RebuildDesk();
    for (int size = 0; size < 240; size++) {
      Checks.due("length()", desk.length(), size);
      desk.write(size < 239 ? ' ' : '\n');
    }
    Checks.due("length() of a full text", desk.length(), 240);
    desk.write('x');
    Checks.due("length() behind a refused write", desk.length(), 240);
    Checks.read(desk);
    Checks.due("length() behind read()", desk.length(), 240);
    desk.erase();
    Checks.write(desk, "x\n");
    Checks.read(desk);
    Checks.due("length() behind a read() that throws", desk.length(), 2);
    Checks.make(desk, 0);
    Checks.due("length() behind make()", desk.length(), 2);
  }
}
