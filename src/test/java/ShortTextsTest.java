/** Every short text of ten telling characters, alone and beside other lines, is read as the plain model reads it. */
public final class ShortTextsTest {
  private static final String CHARACTERS = " a0$A:=%\t\n";
  private static final int LONGEST = 4;
  // What stands before each short text and what stands behind it.
  private static final String[][] PLACES = {
    {"", ""}, {"", "\n"}, {"", "\n\tx\n"}, {"b1:c2\n", "\n"}, {"%1:%0\n", "\n"}, {"%1", "%0\n\tx\n"},
    {"A=b0\n", "a0\n\tx\n"}, {"A=$A\n", "\nb1:$A\n"}};

  private static int texts;

  public static void main(String[] args) {
    compareAll("");
    Checks.due("the number of texts", texts, 11111 * PLACES.length);
    Checks.end();
  }

  private static void compareAll(String start) {
    for (String[] place : PLACES) {
      compare(place[0] + start + place[1]);
    }
    if (start.length() < LONGEST) {
      for (int i = 0; i < CHARACTERS.length(); i++) {
        compareAll(start + CHARACTERS.charAt(i));
      }
    }
  }

  private static void compare(String text) {
    texts++;
    RebuildDesk desk = Checks.deskWith(text);
    PlainModel model = new PlainModel();
    for (int from = 0; from < text.length(); from += 8) {
      model.write(Checks.pack(text.substring(from, Math.min(from + 8, text.length()))));
    }
    String shown = Checks.shown(text);
    Checks.due("read() of " + shown, Checks.read(desk), model.read());
    Checks.due("fault() for " + shown, desk.fault(), model.fault());
    for (int n = 0; n < 12; n++) {
      Checks.due("sources(" + n + ") for " + shown, desk.sources(n), model.sources(n));
      Checks.due("recipe(" + n + ") for " + shown, desk.recipe(n), model.recipe(n));
    }
  }
}
