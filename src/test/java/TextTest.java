/** Promises 1 to 4: a new object, write, erase, length. */
public final class TextTest {
  public static void main(String[] args) {
    newObject();
    writing();
    writingWrongCodes();
    writingTooMuch();
    erasing();
    Checks.end();
  }

  private static void newObject() {
    RebuildDesk desk = new RebuildDesk();
    Checks.due("length() at first", desk.length(), 0);
    Checks.due("fault() at first", desk.fault(), 0);
    for (int file = 0; file < 32; file++) {
      Checks.due("stampOf at first", desk.stampOf(file), 0);
      Checks.due("sources at first", desk.sources(file), 0);
      Checks.due("recipe at first", desk.recipe(file), 0);
      Checks.due("reason at first", desk.reason(file), 0);
      Checks.due("ran at first", desk.ran(file), -1);
      Checks.due("make at first", Checks.make(desk, file), Checks.NO_ELEMENT);
    }
    Checks.due("read() of an empty text", Checks.read(desk), "0");
    Checks.due("two objects share nothing", Checks.deskThatRead("a0:b0\n").sources(0), 16);
    Checks.due("two objects share nothing", desk.sources(0), 0);
  }

  private static void writing() {
    RebuildDesk desk = new RebuildDesk();
    Checks.due("write of nothing", desk.write(0), 0);
    Checks.due("write of one", desk.write(Checks.pack("a")), 1);
    Checks.due("write ends at a 0", desk.write(Checks.pack("1:\0b0\n")), 2);
    Checks.due("what is behind a 0 is not looked at", desk.write(0x80_00_62L), 1);
    Checks.due("nor is the highest place", desk.write(0xFF_00_00_00_00_00_00_31L), 1);
    Checks.due("write of eight", desk.write(Checks.pack("c2 d3 $A")), 8);
    Checks.due("write of a line end", desk.write(10), 1);
    Checks.due("length()", desk.length(), 14);
    Checks.due("read() of what was written", Checks.read(desk), "1");
    Checks.due("the sources written", desk.sources(1), Checks.files("b1", "c2", "d3"));
    RebuildDesk all = Checks.deskWith("a0:\n\t");
    for (int code = 1; code <= 127; code++) {
      Checks.due("write of code " + code, all.write(code), 1);
    }
    Checks.due("length() of all codes", all.length(), 132);
  }

  private static void writingWrongCodes() {
    RebuildDesk desk = Checks.deskWith("a0:");
    Checks.due("write of 128", desk.write(128), -1);
    Checks.due("write of 255", desk.write(255), -1);
    Checks.due("write of -1", desk.write(-1L), -1);
    Checks.due("write of a wrong code behind right ones", desk.write(Checks.pack("b0\u0080")), -1);
    Checks.due("write of a wrong code in the highest place", desk.write(0x80_31_31_31_31_31_31_31L), -1);
    Checks.due("length() afterwards", desk.length(), 3);
    Checks.due("write of 127", desk.write(127), 1);
    desk.erase();
    Checks.write(desk, "a0:");
    desk.write(Checks.pack("b0\u0080"));
    Checks.write(desk, "\n");
    Checks.due("nothing of a refused write is in the text", Checks.read(desk), "1");
    Checks.due("its sources", desk.sources(0), 0);
  }

  private static void writingTooMuch() {
    RebuildDesk desk = Checks.deskWith(" ".repeat(235));
    Checks.due("write over the end", desk.write(Checks.pack("a0:b0\n")), -1);
    Checks.due("length() is as it was", desk.length(), 235);
    Checks.due("write up to the end", desk.write(Checks.pack("a0:b\n")), 5);
    Checks.due("length() is 240", desk.length(), 240);
    Checks.due("write of nothing more", desk.write(0), 0);
    Checks.due("write of one more", desk.write(10), -1);
    Checks.due("length() stays", desk.length(), 240);
    desk.erase();
    Checks.write(desk, " ".repeat(234));
    Checks.write(desk, "a0:b0\n");
    Checks.due("read() of a full text", Checks.read(desk), "1");
    Checks.due("the sources of a full text", desk.sources(0), 16);
    desk.erase();
    Checks.write(desk, "\n".repeat(240));
    Checks.due("read() of 240 lines", Checks.read(desk), "0");
    desk.erase();
    Checks.write(desk, "\n".repeat(239) + "x");
    Checks.due("read() of 240 lines with a bad last one", Checks.read(desk), Checks.ARGUMENT);
    Checks.due("the number of the last line", desk.fault(), 240);
  }

  private static void erasing() {
    RebuildDesk desk = new RebuildDesk();
    Checks.due("erase() of nothing", desk.erase(), 0);
    Checks.write(desk, "a0:b0\n\tx\n");
    Checks.read(desk);
    Checks.due("erase()", desk.erase(), 9);
    Checks.due("length() behind it", desk.length(), 0);
    Checks.due("the rules read stay", desk.sources(0), 16);
    Checks.due("the recipes read stay", desk.recipe(0), 1);
    Checks.due("erase() again", desk.erase(), 0);
    Checks.write(desk, "b0:\n");
    Checks.due("length() of the new text", desk.length(), 4);
    Checks.due("read() has the new text alone", Checks.read(desk), "1");
    Checks.due("the old sources are gone", desk.sources(0), 0);
  }
}
