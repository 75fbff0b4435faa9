import java.util.ArrayList;
import java.util.Arrays;
import java.util.Collections;
import java.util.HashMap;
import java.util.HashSet;
import java.util.List;
import java.util.Map;
import java.util.Set;
import java.util.TreeSet;
import java.util.regex.Matcher;
import java.util.regex.Pattern;

/** The document once more, with texts, sets and searches and no care for cost: ModelTest compares with it. */
final class PlainModel {
  private static final String PHRASE = "(?: |[a-h][0-3]|\\$[A-Z])*";
  private static final Pattern RULE = Pattern.compile("(?=.*[^ ].*:)(?! *:)(" + PHRASE + "):(" + PHRASE + ")", Pattern.DOTALL);
  private static final Pattern MACRO = Pattern.compile("([A-Z])=(" + PHRASE + ")", Pattern.DOTALL);
  private static final Pattern PATTERN = Pattern.compile("%([0-3]):%([0-3])", Pattern.DOTALL);
  private static final Pattern PART = Pattern.compile("[a-h][0-3]|\\$[A-Z]");

  private static final class Rule {
    int line;
    boolean hasRecipe;
    String before;
    String behind;
    List<Integer> targets;
    List<Integer> sources;
  }

  private final int[] stamps = new int[32];
  private String text = "";
  private int fault;
  private List<Rule> rules = new ArrayList<>();
  private List<int[]> patterns = new ArrayList<>();
  private List<Integer> runs = new ArrayList<>();
  private Map<Integer, Integer> reasons = new HashMap<>();

  int write(long chars) {
    StringBuilder more = new StringBuilder();
    for (long rest = chars; rest != 0 && (rest & 255) != 0; rest >>>= 8) {
      more.append((char) (rest & 255));
    }
    if (more.chars().anyMatch(c -> c > 127) || text.length() + more.length() > 240) {
      return -1;
    }
    text += more;
    return more.length();
  }

  int erase() {
    int before = text.length();
    text = "";
    return before;
  }

  int length() {
    return text.length();
  }

  int fault() {
    return fault;
  }

  String read() {
    List<String> lines = new ArrayList<>(Arrays.asList(text.split("\n", -1)));
    String rest = lines.remove(lines.size() - 1);
    boolean ends = rest.isEmpty();
    if (!ends) {
      lines.add(rest);
    }
    for (int i = 0; i < lines.size(); i++) {
      if (isFaulty(lines, i, ends)) {
        fault = i + 1;
        return Checks.ARGUMENT;
      }
    }
    if (!lines.isEmpty() && PATTERN.matcher(lines.get(lines.size() - 1)).matches()) {
      fault = lines.size();
      return Checks.ARGUMENT;
    }
    return readWellFormed(lines);
  }

  private static boolean isFaulty(List<String> lines, int i, boolean ends) {
    String line = lines.get(i);
    boolean isRecipe = line.startsWith("\t");
    if (i == lines.size() - 1 && !ends) {
      return true;
    }
    if (i > 0 && PATTERN.matcher(lines.get(i - 1)).matches() && !isRecipe) {
      return true;
    }
    if (isRecipe) {
      return i == 0 || !(lines.get(i - 1).startsWith("\t") || PATTERN.matcher(lines.get(i - 1)).matches()
          || RULE.matcher(lines.get(i - 1)).matches());
    }
    return !(line.isBlank() && line.replace(" ", "").isEmpty() || MACRO.matcher(line).matches()
        || PATTERN.matcher(line).matches() || RULE.matcher(line).matches());
  }

  private String readWellFormed(List<String> lines) {
    Map<String, String> macros = new HashMap<>();
    List<Rule> found = new ArrayList<>();
    List<int[]> foundPatterns = new ArrayList<>();
    for (int i = 0; i < lines.size(); i++) {
      Matcher macro = MACRO.matcher(lines.get(i));
      Matcher rule = RULE.matcher(lines.get(i));
      Matcher pattern = PATTERN.matcher(lines.get(i));
      if (lines.get(i).startsWith("\t")) {
        continue;
      } else if (macro.matches()) {
        macros.put("$" + macro.group(1), macro.group(2));
      } else if (pattern.matches()) {
        foundPatterns.add(new int[] {Integer.parseInt(pattern.group(1)), Integer.parseInt(pattern.group(2))});
      } else if (rule.matches()) {
        Rule made = new Rule();
        made.line = i + 1;
        made.hasRecipe = i + 1 < lines.size() && lines.get(i + 1).startsWith("\t");
        made.before = rule.group(1);
        made.behind = rule.group(2);
        found.add(made);
      }
    }
    return takeRules(found, foundPatterns, macros);
  }

  private String takeRules(List<Rule> found, List<int[]> foundPatterns, Map<String, String> macros) {
    for (Rule rule : found) {
      if (loops(rule.before + rule.behind, macros, new ArrayList<>())) {
        fault = rule.line;
        return Checks.STATE;
      }
    }
    for (Rule rule : found) {
      rule.targets = expand(rule.before, macros);
      rule.sources = expand(rule.behind, macros);
      if (rule.targets.size() + rule.sources.size() > 64) {
        fault = rule.line;
        return Checks.UNSUPPORTED;
      }
    }
    for (Rule second : found) {
      for (Rule first : found) {
        if (first.line < second.line && first.hasRecipe && second.hasRecipe
            && !Collections.disjoint(first.targets, second.targets)) {
          fault = second.line;
          return Checks.UNSUPPORTED;
        }
      }
    }
    fault = 0;
    rules = found;
    patterns = foundPatterns;
    return Integer.toString(found.size());
  }

  private static boolean loops(String phrase, Map<String, String> macros, List<String> open) {
    Matcher parts = PART.matcher(phrase);
    while (parts.find()) {
      String part = parts.group();
      if (part.startsWith("$")) {
        if (open.contains(part)) {
          return true;
        }
        open.add(part);
        boolean within = loops(macros.getOrDefault(part, ""), macros, open);
        open.remove(part);
        if (within) {
          return true;
        }
      }
    }
    return false;
  }

  private static List<Integer> expand(String phrase, Map<String, String> macros) {
    List<Integer> names = new ArrayList<>();
    Matcher parts = PART.matcher(phrase);
    while (parts.find()) {
      if (parts.group().startsWith("$")) {
        names.addAll(expand(macros.getOrDefault(parts.group(), ""), macros));
      } else {
        names.add(Checks.file(parts.group()));
      }
    }
    return names;
  }

  int sources(int n) {
    int set = 0;
    for (int source : explicitSources(n)) {
      set |= 1 << source;
    }
    return set;
  }

  int recipe(int n) {
    if (n < 0 || n > 31) {
      return -1;
    }
    return rules.stream().anyMatch(rule -> rule.hasRecipe && rule.targets.contains(n)) ? 1 : 0;
  }

  private Set<Integer> explicitSources(int n) {
    Set<Integer> found = new TreeSet<>();
    for (Rule rule : rules) {
      if (rule.targets.contains(n)) {
        found.addAll(rule.sources);
      }
    }
    return found;
  }

  boolean stamp(int n, int t) {
    if (n < 0 || n > 31 || t < 0 || t > 1000000000) {
      return false;
    }
    stamps[n] = t;
    return true;
  }

  int stampOf(int n) {
    return n < 0 || n > 31 ? -1 : stamps[n];
  }

  /** A file is in the least set if a way leads to it on which no file comes twice. */
  private boolean isAvailable(int file, Set<Integer> open) {
    if (stamps[file] != 0 || recipe(file) == 1) {
      return true;
    }
    if (!open.add(file)) {
      return false;
    }
    boolean found = false;
    for (int[] pattern : patterns) {
      found |= file % 4 == pattern[0] && isAvailable(file / 4 * 4 + pattern[1], open);
    }
    open.remove(file);
    return found;
  }

  private int patternSource(int file) {
    if (recipe(file) == 0) {
      for (int[] pattern : patterns) {
        int source = file / 4 * 4 + pattern[1];
        if (file % 4 == pattern[0] && isAvailable(source, new HashSet<>())) {
          return source;
        }
      }
    }
    return -1;
  }

  private boolean hasAnyRecipe(int file) {
    return recipe(file) == 1 || patternSource(file) != -1;
  }

  private Set<Integer> graphSources(int file) {
    Set<Integer> found = explicitSources(file);
    if (patternSource(file) != -1) {
      found.add(patternSource(file));
    }
    return found;
  }

  private void addFoundation(Map<Integer, Set<Integer>> graph, int file, Set<Integer> found) {
    for (int source : graph.get(file)) {
      if (found.add(source)) {
        addFoundation(graph, source, found);
      }
    }
  }

  private int reasonNow(Map<Integer, Set<Integer>> graph, int file, Map<Integer, Integer> known) {
    if (known.containsKey(file)) {
      return known.get(file);
    }
    int answer = 0;
    if (hasAnyRecipe(file)) {
      for (int source : graph.get(file)) {
        answer = stamps[source] > stamps[file] ? 3 : answer;
      }
      for (int source : graph.get(file)) {
        answer = reasonNow(graph, source, known) != 0 ? 2 : answer;
      }
      answer = stamps[file] == 0 ? 1 : answer;
    }
    known.put(file, answer);
    return answer;
  }

  String make(int goal) {
    if (goal < 0 || goal > 31) {
      return Checks.BOUNDS;
    }
    Map<Integer, Set<Integer>> graph = new HashMap<>();
    Map<Integer, Set<Integer>> foundations = new HashMap<>();
    for (int file = 0; file < 32; file++) {
      graph.put(file, graphSources(file));
    }
    for (int file = 0; file < 32; file++) {
      foundations.put(file, new TreeSet<>());
      addFoundation(graph, file, foundations.get(file));
    }
    Set<Integer> wanted = new TreeSet<>(foundations.get(goal));
    wanted.add(goal);
    if (wanted.stream().anyMatch(file -> foundations.get(file).contains(file))) {
      return Checks.STATE;
    }
    if (wanted.stream().anyMatch(file -> stamps[file] == 0 && !hasAnyRecipe(file))) {
      return Checks.NO_ELEMENT;
    }
    Map<Integer, Integer> known = new HashMap<>();
    wanted.removeIf(file -> reasonNow(graph, file, known) == 0);
    int greatest = Arrays.stream(stamps).max().getAsInt();
    if (greatest + wanted.size() > 1000000000) {
      return Checks.ARITHMETIC;
    }
    runAll(wanted, foundations, known, greatest);
    return Integer.toString(runs.size());
  }

  private void runAll(Set<Integer> wanted, Map<Integer, Set<Integer>> foundations, Map<Integer, Integer> known, int greatest) {
    runs = new ArrayList<>();
    reasons = new HashMap<>();
    while (!wanted.isEmpty()) {
      int next = wanted.stream().filter(file -> Collections.disjoint(foundations.get(file), wanted)).findFirst().get();
      wanted.remove(next);
      runs.add(next);
      reasons.put(next, known.get(next));
      stamps[next] = greatest + runs.size();
    }
  }

  int ran(int i) {
    return i >= 0 && i < runs.size() ? runs.get(i) : -1;
  }

  int reason(int n) {
    return n < 0 || n > 31 ? -1 : reasons.getOrDefault(n, 0);
  }
}
