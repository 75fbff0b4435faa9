import java.util.NoSuchElementException;

/** Reads rules in text form, and brings files up to date by them. */
public final class RebuildDesk {
  private static final int FILES = 32;
  private static final int KINDS = 4;
  private static final int MACROS = 26;
  private static final int MOST_CHARACTERS = 240;
  private static final int GREATEST_CODE = 127;
  private static final int CODES_IN_A_LONG = 8;
  private static final int MOST_NAMES = 64;
  private static final int GREATEST_STAMP = 1000000000;
  private static final int PATTERN_CHARACTERS = 5;
  // A pattern and its line end take 6 characters, the recipe that it must have takes 2 at least.
  private static final int MOST_PATTERNS = MOST_CHARACTERS / 8;
  private static final char LINE_END = 10;
  private static final char RECIPE_MARK = 9;
  private static final int NOWHERE = -1;

  private final Text text = new Text();
  private final Lines lines = new Lines(text);
  private final Macros macros = new Macros(text);
  private final RuleLines ruleLines = new RuleLines(text, lines, macros);
  private final Rules rules = new Rules();
  private final Stamps stamps = new Stamps();
  private final Graph graph = new Graph(rules, stamps);
  private final Report report = new Report();
  private int faultLine;

  public RebuildDesk() {
  }

  public int write(long chars) {
    return text.append(chars);
  }

  public int erase() {
    return text.clear();
  }

  public int length() {
    return text.size();
  }

  public int read() throws IllegalArgumentException, IllegalStateException, UnsupportedOperationException {
    lines.split();
    faultLine = lines.firstIllFormed();
    if (faultLine != 0) {
      throw new IllegalArgumentException();
    }
    macros.learn(lines);
    faultLine = ruleLines.firstLooping();
    if (faultLine != 0) {
      throw new IllegalStateException();
    }
    faultLine = ruleLines.firstTooLong();
    if (faultLine == 0) {
      faultLine = ruleLines.firstDoubled();
    }
    if (faultLine != 0) {
      throw new UnsupportedOperationException();
    }
    return ruleLines.fill(rules);
  }

  public int fault() {
    return faultLine;
  }

  public int sources(int n) {
    return isFile(n) ? rules.sourcesOf(n) : 0;
  }

  public int recipe(int n) {
    if (!isFile(n)) {
      return -1;
    }
    return holds(rules.withRecipe(), n) ? 1 : 0;
  }

  public boolean stamp(int n, int t) {
    if (!isFile(n) || t < 0 || t > GREATEST_STAMP) {
      return false;
    }
    stamps.put(n, t);
    return true;
  }

  public int stampOf(int n) {
    return isFile(n) ? stamps.of(n) : -1;
  }

  public int make(int goal)
      throws IndexOutOfBoundsException, IllegalStateException, NoSuchElementException, ArithmeticException {
    if (!isFile(goal)) {
      throw new IndexOutOfBoundsException();
    }
    graph.build();
    int wanted = graph.withFoundation(goal);
    if (graph.hasLoop(wanted)) {
      throw new IllegalStateException();
    }
    if (graph.hasUnmakeable(wanted)) {
      throw new NoSuchElementException();
    }
    int stale = graph.outOfDate(wanted);
    if (stamps.greatest() + Integer.bitCount(stale) > GREATEST_STAMP) {
      throw new ArithmeticException();
    }
    runRecipes(stale);
    return Integer.bitCount(stale);
  }

  public int ran(int i) {
    return report.fileAt(i);
  }

  public int reason(int n) {
    return isFile(n) ? report.reasonOf(n) : -1;
  }

  private void runRecipes(int stale) {
    // All reasons come before the first run, since they count for the stamps as they were.
    report.clear();
    for (int file = 0; file < FILES; file++) {
      if (holds(stale, file)) {
        report.putReason(file, graph.reasonOf(file, stale));
      }
    }
    int newest = stamps.greatest();
    int waiting = stale;
    for (int run = 1; run <= FILES && waiting != 0; run++) {
      int file = graph.firstReady(waiting);
      stamps.put(file, newest + run);
      report.addRun(file);
      waiting &= ~setOf(file);
    }
  }

  private static boolean isFile(int n) {
    return n >= 0 && n < FILES;
  }

  /** Sets of files and sets of macros are ints: bit k for member k. */
  private static int setOf(int member) {
    return 1 << member;
  }

  private static boolean holds(int set, int member) {
    return (set & setOf(member)) != 0;
  }

  private static boolean isName(char stem, char kind) {
    return stem >= 'a' && stem <= 'h' && kind >= '0' && kind <= '3';
  }

  private static boolean isMacroUse(char mark, char letter) {
    return mark == '$' && letter >= 'A' && letter <= 'Z';
  }

  private static boolean isMacroHead(char letter, char mark) {
    return letter >= 'A' && letter <= 'Z' && mark == '=';
  }

  private static boolean isPatternHalf(char mark, char kind) {
    return mark == '%' && kind >= '0' && kind <= '3';
  }

  private enum LineKind {
    ILL_FORMED, BLANK, MACRO, RULE, PATTERN, RECIPE
  }

  /** The characters, and the phrases among them; a phrase is known by the place where it begins. */
  private static final class Text {
    private final char[] codes = new char[MOST_CHARACTERS];
    private int size;

    int size() {
      return size;
    }

    int clear() {
      int before = size;
      size = 0;
      return before;
    }

    int append(long chars) {
      int added = countCodes(chars);
      if (added < 0 || added > MOST_CHARACTERS - size) {
        return -1;
      }
      for (int i = 0; i < added; i++) {
        codes[size + i] = (char) packedCode(chars, i);
      }
      size += added;
      return added;
    }

    private static int packedCode(long chars, int i) {
      return (int) (chars >>> (8 * i)) & 255;
    }

    private static int countCodes(long chars) {
      for (int i = 0; i < CODES_IN_A_LONG; i++) {
        int code = packedCode(chars, i);
        if (code == 0) {
          return i;
        }
        if (code > GREATEST_CODE) {
          return -1;
        }
      }
      return CODES_IN_A_LONG;
    }

    /** 0, which no character has, stands everywhere outside the text: so no look ahead needs a bound. */
    char codeAt(int at) {
      return at >= 0 && at < size ? codes[at] : 0;
    }

    boolean isNameAt(int at) {
      return isName(codeAt(at), codeAt(at + 1));
    }

    int fileAt(int at) {
      return KINDS * (codeAt(at) - 'a') + kindAt(at + 1);
    }

    int kindAt(int at) {
      return codeAt(at) - '0';
    }

    boolean isMacroUseAt(int at) {
      return isMacroUse(codeAt(at), codeAt(at + 1));
    }

    int macroUsedAt(int at) {
      return codeAt(at + 1) - 'A';
    }

    /** How many characters the part of a phrase at this place has; 0 if none stands there. */
    int partAt(int at) {
      char first = codeAt(at);
      char second = codeAt(at + 1);
      if (first == ' ') {
        return 1;
      }
      return isName(first, second) || isMacroUse(first, second) ? 2 : 0;
    }

    /** No part holds a line end, so a phrase never goes beyond its line. */
    int phraseEnd(int from) {
      int at = from;
      while (at < size && partAt(at) > 0) {
        at += partAt(at);
      }
      return at;
    }

    boolean isOnlySpaces(int from, int end) {
      for (int at = from; at < end; at++) {
        if (codeAt(at) != ' ') {
          return false;
        }
      }
      return true;
    }
  }

  /** The lines of the text as they were at the latest split; here they are counted from 0. */
  private static final class Lines {
    private final Text text;
    private final int[] starts = new int[MOST_CHARACTERS];
    private final LineKind[] kinds = new LineKind[MOST_CHARACTERS];
    private int count;

    Lines(Text text) {
      this.text = text;
    }

    int count() {
      return count;
    }

    int startOf(int line) {
      return line >= 0 && line < count ? starts[line] : NOWHERE;
    }

    boolean isKind(int line, LineKind kind) {
      return line >= 0 && line < count && kinds[line] == kind;
    }

    boolean hasRecipe(int line) {
      return isKind(line + 1, LineKind.RECIPE);
    }

    void split() {
      count = 0;
      int start = 0;
      for (int at = 0; at < text.size(); at++) {
        if (text.codeAt(at) == LINE_END) {
          add(start, kindOf(start, at));
          start = at + 1;
        }
      }
      if (start < text.size()) {
        add(start, LineKind.ILL_FORMED);
      }
    }

    /** The number, from 1, of the line at which a fault of form is seen first; 0 if there is none. */
    int firstIllFormed() {
      for (int line = 0; line < count; line++) {
        if (isKind(line, LineKind.ILL_FORMED) || !maySucceed(line)) {
          return line + 1;
        }
      }
      return isKind(count - 1, LineKind.PATTERN) ? count : 0;
    }

    private boolean maySucceed(int line) {
      if (isKind(line, LineKind.RECIPE)) {
        return isKind(line - 1, LineKind.RULE) || isKind(line - 1, LineKind.PATTERN)
            || isKind(line - 1, LineKind.RECIPE);
      }
      return !isKind(line - 1, LineKind.PATTERN);
    }

    private void add(int start, LineKind kind) {
      if (count < MOST_CHARACTERS) {
        starts[count] = start;
        kinds[count] = kind;
        count++;
      }
    }

    private LineKind kindOf(int start, int end) {
      if (text.codeAt(start) == RECIPE_MARK) {
        return LineKind.RECIPE;
      }
      if (text.isOnlySpaces(start, end)) {
        return LineKind.BLANK;
      }
      if (isMacro(start, end)) {
        return LineKind.MACRO;
      }
      if (isPattern(start, end)) {
        return LineKind.PATTERN;
      }
      return isRule(start, end) ? LineKind.RULE : LineKind.ILL_FORMED;
    }

    private boolean isMacro(int start, int end) {
      return isMacroHead(text.codeAt(start), text.codeAt(start + 1)) && text.phraseEnd(start + 2) == end;
    }

    private boolean isPattern(int start, int end) {
      return end - start == PATTERN_CHARACTERS
          && isPatternHalf(text.codeAt(start), text.codeAt(start + 1))
          && text.codeAt(start + 2) == ':'
          && isPatternHalf(text.codeAt(start + 3), text.codeAt(start + 4));
    }

    private boolean isRule(int start, int end) {
      int colon = text.phraseEnd(start);
      return text.codeAt(colon) == ':' && !text.isOnlySpaces(start, colon) && text.phraseEnd(colon + 1) == end;
    }
  }

  /**
   * The macros of the text, and what phrases come to when they are expanded. No part of a phrase
   * begins inside another one, so a phrase may be gone through character by character.
   */
  private static final class Macros {
    private final Text text;
    private final int[] values = new int[MACROS];
    private final int[] leads = new int[MACROS];
    private final int[] files = new int[MACROS];
    private final int[] names = new int[MACROS];
    private int looping;

    Macros(Text text) {
      this.text = text;
    }

    void learn(Lines lines) {
      findValues(lines);
      findLeads();
      findLooping();
      expandValues();
    }

    boolean usesLooping(int phrase) {
      return (macrosIn(phrase) & looping) != 0;
    }

    int filesIn(int phrase) {
      int end = text.phraseEnd(phrase);
      int found = 0;
      for (int at = phrase; at < end; at++) {
        if (text.isNameAt(at)) {
          found |= setOf(text.fileAt(at));
        } else if (text.isMacroUseAt(at)) {
          found |= files[text.macroUsedAt(at)];
        }
      }
      return found;
    }

    /** Counted no further than just beyond the most that a rule may have: macros can double without end. */
    int namesIn(int phrase) {
      int end = text.phraseEnd(phrase);
      int count = 0;
      for (int at = phrase; at < end; at++) {
        if (text.isNameAt(at)) {
          count++;
        } else if (text.isMacroUseAt(at)) {
          count += names[text.macroUsedAt(at)];
        }
      }
      return Math.min(count, MOST_NAMES + 1);
    }

    private int macrosIn(int phrase) {
      int end = text.phraseEnd(phrase);
      int found = 0;
      for (int at = phrase; at < end; at++) {
        if (text.isMacroUseAt(at)) {
          found |= setOf(text.macroUsedAt(at));
        }
      }
      return found;
    }

    private void findValues(Lines lines) {
      for (int macro = 0; macro < MACROS; macro++) {
        values[macro] = NOWHERE;
      }
      for (int line = 0; line < lines.count(); line++) {
        if (lines.isKind(line, LineKind.MACRO)) {
          int start = lines.startOf(line);
          values[text.codeAt(start) - 'A'] = start + 2;
        }
      }
    }

    private void findLeads() {
      for (int macro = 0; macro < MACROS; macro++) {
        leads[macro] = macrosIn(values[macro]);
      }
      for (int via = 0; via < MACROS; via++) {
        for (int macro = 0; macro < MACROS; macro++) {
          if (holds(leads[macro], via)) {
            leads[macro] |= leads[via];
          }
        }
      }
    }

    private void findLooping() {
      int leadingToThemselves = 0;
      for (int macro = 0; macro < MACROS; macro++) {
        leadingToThemselves |= leads[macro] & setOf(macro);
      }
      looping = 0;
      for (int macro = 0; macro < MACROS; macro++) {
        if ((leads[macro] & leadingToThemselves) != 0) {
          looping |= setOf(macro);
        }
      }
    }

    /** A value is expanded once all that its macro leads to are; a looping one never is. */
    private void expandValues() {
      int expanded = 0;
      for (int round = 0; round < MACROS; round++) {
        for (int macro = 0; macro < MACROS; macro++) {
          if (!holds(expanded, macro) && (leads[macro] & ~expanded) == 0) {
            files[macro] = filesIn(values[macro]);
            names[macro] = namesIn(values[macro]);
            expanded |= setOf(macro);
          }
        }
      }
    }
  }

  /** The rule lines of a text whose lines are all well formed. */
  private static final class RuleLines {
    private final Text text;
    private final Lines lines;
    private final Macros macros;

    RuleLines(Text text, Lines lines, Macros macros) {
      this.text = text;
      this.lines = lines;
      this.macros = macros;
    }

    /** The number, from 1, of the first rule that uses a macro without an end; 0 if there is none. */
    int firstLooping() {
      for (int line = 0; line < lines.count(); line++) {
        if (isRule(line) && (macros.usesLooping(targetPhrase(line)) || macros.usesLooping(sourcePhrase(line)))) {
          return line + 1;
        }
      }
      return 0;
    }

    /** The number, from 1, of the first rule with too many names; 0 if there is none. */
    int firstTooLong() {
      for (int line = 0; line < lines.count(); line++) {
        if (isRule(line)
            && macros.namesIn(targetPhrase(line)) + macros.namesIn(sourcePhrase(line)) > MOST_NAMES) {
          return line + 1;
        }
      }
      return 0;
    }

    /** The number, from 1, of the first rule that gives a file a second recipe; 0 if there is none. */
    int firstDoubled() {
      int taken = 0;
      for (int line = 0; line < lines.count(); line++) {
        if (isRule(line) && lines.hasRecipe(line)) {
          if ((taken & targets(line)) != 0) {
            return line + 1;
          }
          taken |= targets(line);
        }
      }
      return 0;
    }

    /** Gives the rules and patterns of the text to the rules read: how many rules there are. */
    int fill(Rules rules) {
      int count = 0;
      rules.clear();
      for (int line = 0; line < lines.count(); line++) {
        if (isRule(line)) {
          rules.addRule(targets(line), macros.filesIn(sourcePhrase(line)), lines.hasRecipe(line));
          count++;
        } else if (lines.isKind(line, LineKind.PATTERN)) {
          int start = lines.startOf(line);
          rules.addPattern(text.kindAt(start + 1), text.kindAt(start + 4));
        }
      }
      return count;
    }

    private boolean isRule(int line) {
      return lines.isKind(line, LineKind.RULE);
    }

    private int targets(int line) {
      return macros.filesIn(targetPhrase(line));
    }

    private int targetPhrase(int line) {
      return lines.startOf(line);
    }

    private int sourcePhrase(int line) {
      return text.phraseEnd(lines.startOf(line)) + 1;
    }
  }

  /** The rules read. */
  private static final class Rules {
    private final int[] sources = new int[FILES];
    private final int[] patternTargets = new int[MOST_PATTERNS];
    private final int[] patternSources = new int[MOST_PATTERNS];
    private int withRecipe;
    private int patterns;

    void clear() {
      for (int file = 0; file < FILES; file++) {
        sources[file] = 0;
      }
      withRecipe = 0;
      patterns = 0;
    }

    void addRule(int targets, int ruleSources, boolean hasRecipe) {
      for (int file = 0; file < FILES; file++) {
        if (holds(targets, file)) {
          sources[file] |= ruleSources;
        }
      }
      if (hasRecipe) {
        withRecipe |= targets;
      }
    }

    void addPattern(int targetKind, int sourceKind) {
      if (patterns < MOST_PATTERNS) {
        patternTargets[patterns] = targetKind;
        patternSources[patterns] = sourceKind;
        patterns++;
      }
    }

    int sourcesOf(int file) {
      return sources[file];
    }

    int withRecipe() {
      return withRecipe;
    }

    /** The source that the first fitting pattern gives a file out of those available, or NOWHERE. */
    int patternSource(int file, int available) {
      int kind = file % KINDS;
      for (int i = 0; i < patterns; i++) {
        int source = file - kind + patternSources[i];
        if (patternTargets[i] == kind && holds(available, source)) {
          return source;
        }
      }
      return NOWHERE;
    }
  }

  private static final class Stamps {
    private final int[] stamps = new int[FILES];

    int of(int file) {
      return stamps[file];
    }

    void put(int file, int value) {
      stamps[file] = value;
    }

    int greatest() {
      int greatest = 0;
      for (int file = 0; file < FILES; file++) {
        greatest = Math.max(greatest, stamps[file]);
      }
      return greatest;
    }
  }

  /** The graph for the stamps as they were at the latest build. */
  private static final class Graph {
    private final Rules rules;
    private final Stamps stamps;
    private final int[] sources = new int[FILES];
    private final int[] foundations = new int[FILES];
    private int withRecipe;

    Graph(Rules rules, Stamps stamps) {
      this.rules = rules;
      this.stamps = stamps;
    }

    void build() {
      findSources(available());
      findFoundations();
    }

    int withFoundation(int file) {
      return foundations[file] | setOf(file);
    }

    boolean hasLoop(int files) {
      for (int file = 0; file < FILES; file++) {
        if (holds(files, file) && holds(foundations[file], file)) {
          return true;
        }
      }
      return false;
    }

    /** Whether one of the files is not there and has no recipe. */
    boolean hasUnmakeable(int files) {
      for (int file = 0; file < FILES; file++) {
        if (holds(files & ~withRecipe, file) && stamps.of(file) == 0) {
          return true;
        }
      }
      return false;
    }

    /** Those of the files that are out of date; where no loop is, as many rounds as files are enough. */
    int outOfDate(int files) {
      int stale = 0;
      boolean grows = true;
      for (int round = 0; round < FILES && grows; round++) {
        int before = stale;
        for (int file = 0; file < FILES; file++) {
          if (holds(files & ~stale, file) && reasonOf(file, stale) != 0) {
            stale |= setOf(file);
          }
        }
        grows = stale != before;
      }
      return stale;
    }

    int reasonOf(int file, int stale) {
      if (!holds(withRecipe, file)) {
        return 0;
      }
      if (stamps.of(file) == 0) {
        return 1;
      }
      if ((sources[file] & stale) != 0) {
        return 2;
      }
      return hasNewerSource(file) ? 3 : 0;
    }

    /** The least of the waiting files that need no other waiting one: where no loop is, there always is one. */
    int firstReady(int waiting) {
      for (int file = 0; file < FILES; file++) {
        if (holds(waiting, file) && (foundations[file] & waiting) == 0) {
          return file;
        }
      }
      return 0;
    }

    private boolean hasNewerSource(int file) {
      for (int source = 0; source < FILES; source++) {
        if (holds(sources[file], source) && stamps.of(source) > stamps.of(file)) {
          return true;
        }
      }
      return false;
    }

    /** The least set: it begins with what is available by itself and grows by the patterns alone. */
    private int available() {
      int found = rules.withRecipe();
      for (int file = 0; file < FILES; file++) {
        if (stamps.of(file) != 0) {
          found |= setOf(file);
        }
      }
      // Patterns stay within a stem, so a chain of them has no more steps than there are kinds.
      for (int round = 0; round < KINDS; round++) {
        for (int file = 0; file < FILES; file++) {
          if (rules.patternSource(file, found) != NOWHERE) {
            found |= setOf(file);
          }
        }
      }
      return found;
    }

    private void findSources(int available) {
      withRecipe = rules.withRecipe();
      for (int file = 0; file < FILES; file++) {
        sources[file] = rules.sourcesOf(file);
        if (!holds(rules.withRecipe(), file)) {
          addPatternSource(file, rules.patternSource(file, available));
        }
      }
    }

    private void addPatternSource(int file, int source) {
      if (source != NOWHERE) {
        sources[file] |= setOf(source);
        withRecipe |= setOf(file);
      }
    }

    private void findFoundations() {
      for (int file = 0; file < FILES; file++) {
        foundations[file] = sources[file];
      }
      for (int via = 0; via < FILES; via++) {
        for (int file = 0; file < FILES; file++) {
          if (holds(foundations[file], via)) {
            foundations[file] |= foundations[via];
          }
        }
      }
    }
  }

  /** What the latest make that threw nothing did. */
  private static final class Report {
    private final int[] runs = new int[FILES];
    private final int[] reasons = new int[FILES];
    private int count;

    void clear() {
      count = 0;
      for (int file = 0; file < FILES; file++) {
        reasons[file] = 0;
      }
    }

    void addRun(int file) {
      if (count < FILES) {
        runs[count] = file;
        count++;
      }
    }

    void putReason(int file, int why) {
      reasons[file] = why;
    }

    int fileAt(int i) {
      return i >= 0 && i < count ? runs[i] : -1;
    }

    int reasonOf(int file) {
      return reasons[file];
    }
  }
}
