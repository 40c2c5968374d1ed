import java.lang.reflect.Constructor;
import java.lang.reflect.Field;
import java.lang.reflect.Method;
import java.lang.reflect.Modifier;
import java.nio.file.Files;
import java.nio.file.Path;
import java.util.ArrayList;
import java.util.HashMap;
import java.util.List;
import java.util.Map;
import java.util.Random;
import java.util.Set;
import java.util.TreeSet;
import java.util.regex.Matcher;
import java.util.regex.Pattern;

/** What of the document can be read by a program, against the program; and README.md, that what it says is so. */
public final class DocumentTest {
    private static final Path DOCUMENT = Path.of("../shared/DOC.md");
    private static final Path README = Path.of("README.md");
    private static final List<String> SYMBOLS = List.of("L", "S", "E", "T", "P", "NAME", "INT", "'='", "';'", "'+'", "'*'",
            "'('", "')'", "'{'", "'}'", "END", "BAD");
    private static final Typist T = new Typist();

    /** By RULE, its symbol and then those of which it is made. */
    private static final List<List<Integer>> RULES = new ArrayList<>();
    /** By "STATE symbol", the STATE to which it leads. */
    private static final Map<String, Integer> LEADS = new HashMap<>();
    private static final Set<String> LEADS_SEEN = new TreeSet<>();

    // ---- the face ----

    private static String block(String text, String behind, String language) {
        int from = text.indexOf("```" + language + "\n", text.indexOf(behind)) + language.length() + 4;
        return text.substring(from, text.indexOf("```", from));
    }

    private static void face(String document) {
        Set<String> wanted = new TreeSet<>();
        for (String line : block(document, "## The public face", "java").split("\n")) {
            if (line.startsWith("    ")) {
                wanted.add(line.strip().replaceAll("(int|boolean) \\w+([,)])", "$1$2").replace(";", ""));
            }
        }
        Set<String> there = new TreeSet<>();
        for (Method m : RegrowDesk.class.getDeclaredMethods()) {
            if (Modifier.isPublic(m.getModifiers())) {
                there.add(shape(Modifier.toString(m.getModifiers()) + " " + m.getReturnType() + " " + m.getName(),
                        m.getParameterTypes()));
            }
        }
        for (Constructor<?> c : RegrowDesk.class.getDeclaredConstructors()) {
            there.add(shape(Modifier.toString(c.getModifiers()) + " RegrowDesk", c.getParameterTypes()));
        }
        for (Field f : RegrowDesk.class.getFields()) {
            there.add(Modifier.toString(f.getModifiers()) + " " + f.getType() + " " + f.getName() + " = "
                    + RegrowDesk.NONE);
        }
        T.due("the face", there, wanted);
    }

    private static String shape(String name, Class<?>[] parameters) {
        List<String> types = new ArrayList<>();
        for (Class<?> p : parameters) {
            types.add(p.toString());
        }
        return name + "(" + String.join(", ", types) + ")";
    }

    // ---- the RULES and STATES ----

    private static void readRules(String document) {
        Matcher m = Pattern.compile("(\\d+): ([LSETP]) from ((?:[^;.']|'.')*)[;.]").matcher(
                document.substring(document.indexOf("RULES: 0:"), document.indexOf("SYMBOLS: 0")));
        while (m.find()) {
            T.due("RULE " + m.group(1) + " is read in its place", Integer.parseInt(m.group(1)), RULES.size());
            List<Integer> rule = new ArrayList<>(List.of(SYMBOLS.indexOf(m.group(2))));
            for (String s : m.group(3).strip().split(" ")) {
                if (!s.equals("nothing")) {
                    rule.add(SYMBOLS.indexOf(s));
                }
            }
            RULES.add(rule);
        }
        T.due("RULES", RULES.size(), 11);
    }

    private static void readStates(String document) {
        String states = document.substring(document.indexOf("a RULE by which is reduced."));
        states = states.substring(0, states.indexOf("```"));
        Matcher state = Pattern.compile("(\\d+): (.*?)\\.(?= \\d+:|\\s*$)").matcher(states);
        int many = 0;
        while (state.find()) {
            T.due("STATE " + state.group(1) + " is read in its place", Integer.parseInt(state.group(1)), many);
            Matcher lead = Pattern.compile("([LSETP]|NAME|INT|'.') (\\d+)").matcher(state.group(2));
            while (lead.find()) {
                LEADS.put(many + " " + SYMBOLS.indexOf(lead.group(1)), Integer.parseInt(lead.group(2)));
            }
            many++;
        }
        T.due("STATES", many, 21);
    }

    /** Each node of a RULE is as its RULE says, and was begun where what stands ahead of it leads. */
    private static void compareBelow(RegrowDesk x, int node, int state) {
        int rule = x.node(node, 0);
        T.due("STATE of node " + node, x.node(node, 3), state);
        T.due("symbol of node " + node, x.node(node, 1), RULES.get(rule).get(0));
        T.due("CHILDREN of node " + node, x.node(node, 2), RULES.get(rule).size() - 1);
        int on = state;
        for (int i = 0; i < x.node(node, 2); i++) {
            int child = x.child(node, i);
            int symbol = x.node(child, 1);
            T.due("CHILD " + i + " of node " + node, symbol, RULES.get(rule).get(i + 1));
            if (x.node(child, 0) >= 0) {
                compareBelow(x, child, on);
            }
            LEADS_SEEN.add(on + " " + symbol);
            on = LEADS.getOrDefault(on + " " + symbol, -9);
        }
    }

    private static String statements(Random random, int depth) {
        StringBuilder s = new StringBuilder();
        for (int i = random.nextInt(4); i > 0; i--) {
            boolean block = depth < 3 && random.nextInt(3) == 0;
            s.append(block ? "{" + statements(random, depth + 1) + "}" : "a=" + sum(random, depth) + ";");
        }
        return s.toString();
    }

    private static String sum(Random random, int depth) {
        int kind = depth > 3 ? random.nextInt(2) : random.nextInt(5);
        switch (kind) {
            case 0: return "b";
            case 1: return "7";
            case 2: return sum(random, depth + 1) + "+" + sum(random, depth + 1);
            case 3: return sum(random, depth + 1) + "*" + sum(random, depth + 1);
            default: return "(" + sum(random, depth + 1) + ")";
        }
    }

    private static void rulesAndStates(String document) {
        readRules(document);
        readStates(document);
        Random random = new Random(26);
        for (int turn = 0; turn < 60; turn++) {
            RegrowDesk x = new RegrowDesk();
            for (int edits = 0; edits < 10; edits++) {
                String text = statements(random, 0);
                if (text.length() <= 180) {
                    Typist.edit(x, 0, random.nextInt(2) * x.count(0), text);
                    compareBelow(x, x.count(4), 0);
                }
            }
        }
        LEADS_SEEN.add("0 0");
        T.due("all that leads on was gone by, and nothing else", LEADS_SEEN, new TreeSet<>(LEADS.keySet()));
    }

    // ---- README.md ----

    private static Object call(RegrowDesk x, String name, String arguments) throws Exception {
        List<Object> values = new ArrayList<>();
        for (String a : arguments.isBlank() ? new String[0] : arguments.split(", ")) {
            values.add(Integer.decode(a));
        }
        for (Method m : RegrowDesk.class.getMethods()) {
            if (m.getName().equals(name) && m.getParameterCount() == values.size()) {
                return m.invoke(x, values.toArray());
            }
        }
        return "no such call";
    }

    private static void readme() throws Exception {
        String page = Files.readString(README);
        RegrowDesk x = new RegrowDesk();
        Matcher line = Pattern.compile("desk\\.(\\w+)\\(([^)]*)\\); *// ([-\\w]+)").matcher(page);
        int lines = 0;
        while (line.find()) {
            T.due("README.md: " + line.group(1) + "(" + line.group(2) + ")",
                    String.valueOf(call(x, line.group(1), line.group(2))), line.group(3));
            lines++;
        }
        T.due("README.md tells calls", lines >= 20, true);
        for (Method m : RegrowDesk.class.getDeclaredMethods()) {
            T.due("README.md names " + m.getName(),
                    !Modifier.isPublic(m.getModifiers()) || page.contains("`" + m.getName() + "`"), true);
        }
        for (Class<?> c : RegrowDesk.class.getDeclaredClasses()) {
            T.due("README.md names " + c.getSimpleName(), page.contains("`" + c.getSimpleName() + "`"), true);
        }
        try (var tests = Files.list(Path.of("src/test/java"))) {
            for (Path test : tests.toList()) {
                T.due("README.md names " + test, page.contains("`src/test/java/" + test.getFileName() + "`"), true);
            }
        }
    }

    public static void main(String[] args) throws Exception {
        if (Files.exists(DOCUMENT)) {
            String document = Files.readString(DOCUMENT);
            face(document);
            rulesAndStates(document);
        } else {
            System.out.println(DOCUMENT + " is not there: the face, RULES and STATES are not compared with it");
        }
        readme();
        T.end("DocumentTest");
    }
}
