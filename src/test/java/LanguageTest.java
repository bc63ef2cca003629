import java.io.IOException;
import java.io.PrintWriter;
import java.io.StringWriter;
import java.lang.management.ManagementFactory;
import java.lang.reflect.Constructor;
import java.lang.reflect.Field;
import java.lang.reflect.Method;
import java.lang.reflect.Modifier;
import java.nio.file.Files;
import java.nio.file.Path;
import java.util.ArrayList;
import java.util.Arrays;
import java.util.HashMap;
import java.util.HashSet;
import java.util.List;
import java.util.Map;
import java.util.Set;
import java.util.TreeSet;
import java.util.regex.Matcher;
import java.util.regex.Pattern;
import java.util.spi.ToolProvider;

/** What of ../shared/LANGUAGE.md can be looked up in the source and the class, and what a long run makes. */
public final class LanguageTest extends Checks {
    private static final String SOURCE = "src/main/java/StageTruths.java";
    private static final Set<String> CONSTANTS = Set.of("UNKNOWN", "BAD_VALUE", "FULL", "NOT_POSSIBLE", "NONE");

    public static void main(String[] args) throws IOException {
        face();
        classesInside();
        source();
        compiled();
        whatIsMade();
        finish();
    }

    private static void face() {
        Class<?> type = StageTruths.class;
        check(Modifier.isPublic(type.getModifiers()) && Modifier.isFinal(type.getModifiers()), "public and final");
        Set<String> methods = new HashSet<>();
        for (Method method : type.getDeclaredMethods()) {
            if (!Modifier.isPrivate(method.getModifiers()) && !method.isSynthetic()) {
                check(Modifier.isPublic(method.getModifiers()), "visible: " + method);
                check(method.getReturnType() == int.class, "returns another type: " + method);
                check(methods.add(method.getName()), "twice: " + method);
            } else {
                check(!METHODS.contains(method.getName()), "has the name of a public one: " + method);
            }
        }
        check(methods.equals(METHODS), "the public methods are " + methods);
        Set<String> fields = new HashSet<>();
        for (Field field : type.getDeclaredFields()) {
            if (!Modifier.isPrivate(field.getModifiers()) && !field.isSynthetic()) {
                fields.add(field.getName());
            }
        }
        check(fields.equals(CONSTANTS), "the visible fields are " + fields);
        Constructor<?>[] constructors = type.getDeclaredConstructors();
        check(constructors.length == 1 && Modifier.isPublic(constructors[0].getModifiers())
            && constructors[0].getParameterCount() == 0, "one public constructor without parameters");
    }

    private static void classesInside() {
        Class<?>[] inside = StageTruths.class.getDeclaredClasses();
        check(inside.length <= 12, inside.length + " classes inside");
        Set<Class<?>> all = new HashSet<>(Arrays.asList(inside));
        all.add(StageTruths.class);
        for (Class<?> type : all) {
            int fields = 0;
            for (Field field : type.getDeclaredFields()) {
                boolean isStatic = Modifier.isStatic(field.getModifiers());
                fields += isStatic ? 0 : 1;
                check(!isStatic || Modifier.isFinal(field.getModifiers()), "static and not final: " + field);
            }
            check(fields <= 20, fields + " fields in " + type);
            for (Method method : type.getDeclaredMethods()) {
                check(method.getParameterCount() <= 7, "many parameters: " + method);
                check(type == StageTruths.class || !METHODS.contains(method.getName()), "a name of the face: " + method);
            }
            if (type != StageTruths.class) {
                int modifiers = type.getModifiers();
                check(Modifier.isStatic(modifiers) && !Modifier.isPublic(modifiers)
                    && !Modifier.isProtected(modifiers), "not static or visible: " + type);
                check(type.getDeclaredClasses().length == 0, "classes inside " + type);
            }
        }
    }

    private static void source() throws IOException {
        String text = Files.readString(Path.of(SOURCE));
        check(text.chars().allMatch(c -> c < 128), "signs above 127");
        String code = text.replaceAll("(?s)/\\*.*?\\*/", "").replaceAll("//[^\n]*", "")
            .replaceAll("'(\\\\.|[^'\\\\])'", "0").replaceAll("\"(\\\\.|[^\"\\\\])*\"", "\"\"");
        for (String word : List.of("throw", "throws", "try", "catch", "finally", "synchronized", "assert", "import",
            "package", "volatile", "native", "yield", "var", "protected", "instanceof", "String", "Object")) {
            check(!Pattern.compile("\\b" + word + "\\b").matcher(code).find(), "the word " + word);
        }
        for (String sign : List.of("->", "::", "static {", "@", "\"", "equals(", "hashCode", "toString",
            "/", "%", "\t")) {
            check(!code.contains(sign), "the sign " + sign);
        }
        Matcher library = Pattern.compile("\\b([A-Z]\\w*)\\.(\\w+)").matcher(code);
        Set<String> listed = Set.of("Math.max", "Math.min", "Integer.bitCount");
        while (library.find()) {
            boolean own = Set.of("Parts", "Claim", "Findings").contains(library.group(1));
            check(own || listed.contains(library.group()), "from the library: " + library.group());
        }
        check(!Pattern.compile("while\\s*\\(").matcher(code).find(), "a loop whose bound is not in sight");
        methodLengths(text);
    }

    /** What is seen best in the compiled classes: which method calls which, and what could make the machine throw. */
    private static void compiled() {
        Map<String, Set<String>> calls = new HashMap<>();
        Pattern typeHead = Pattern.compile("^[\\w ]*class ([\\w$]+) \\{$");
        Pattern methodHead = Pattern.compile("^  (?:\\S.*?)?([\\w$]+)(?:\\(.*\\)| \\{\\});$");
        Pattern callOf = Pattern.compile(": invoke.*Method (?:([\\w$]+)\\.)?\"?([\\w<>]+)\"?:\\(");
        Pattern throwing = Pattern.compile("^ *\\d+: (athrow|checkcast|[il]div|[il]rem|invokedynamic|monitor\\w+)");
        String type = "";
        String method = "";
        for (String line : disassembled().split("\n")) {
            Matcher inType = typeHead.matcher(line);
            Matcher inMethod = methodHead.matcher(line);
            Matcher call = callOf.matcher(line);
            if (inType.find()) {
                type = inType.group(1);
            } else if (inMethod.find()) {
                String name = inMethod.group(1);
                method = type + "." + (name.equals(type) ? "<init>" : name);
                calls.put(method, new TreeSet<>());
            } else if (call.find()) {
                calls.get(method).add((call.group(1) == null ? type : call.group(1)) + "." + call.group(2));
            }
            check(!throwing.matcher(line).find(), "in " + method + ": " + line.trim());
        }
        calls.values().forEach(called -> called.retainAll(calls.keySet()));
        check(calls.size() > 100, "only " + calls.size() + " methods compiled");
        check(calls.getOrDefault("StageTruths$Proof.proves", Set.of()).remove("StageTruths$Proof.proves"),
            "no recursion where it should be");
        for (String first : calls.keySet()) {
            List<String> deepest = deepest(calls, first, new ArrayList<>());
            check(deepest.size() <= 8, "calls go deep: " + deepest);
        }
    }

    /** The longest way from a method to one that calls no other one. */
    private static List<String> deepest(Map<String, Set<String>> calls, String method, List<String> above) {
        List<String> way = new ArrayList<>(above);
        check(!way.contains(method) && way.size() < 50, "recursion: " + way + " " + method);
        way.add(method);
        List<String> deepest = way;
        for (String called : way.size() < 50 ? calls.get(method) : Set.<String>of()) {
            List<String> deeper = deepest(calls, called, way);
            deepest = deeper.size() > deepest.size() ? deeper : deepest;
        }
        return deepest;
    }

    private static String disassembled() {
        String path = System.getProperty("java.class.path");
        List<String> words = new ArrayList<>(List.of("-c", "-p", "-cp", path, "StageTruths"));
        for (Class<?> type : StageTruths.class.getDeclaredClasses()) {
            words.add(type.getName());
        }
        StringWriter told = new StringWriter();
        PrintWriter out = new PrintWriter(told);
        ToolProvider.findFirst("javap").orElseThrow().run(out, out, words.toArray(new String[0]));
        return told.toString();
    }

    private static void methodLengths(String text) {
        String[] lines = text.split("\n");
        int start = -1;
        String end = "";
        for (int i = 0; i < lines.length; i++) {
            Matcher head = Pattern.compile("^(    |        )(\\w[\\w\\[\\] ]*\\(.*\\) \\{)$").matcher(lines[i]);
            if (start < 0 && head.find() && !head.group(2).matches("(for|if|switch).*")) {
                start = i;
                end = head.group(1) + "}";
            } else if (start >= 0 && lines[i].equals(end)) {
                check(i - start <= 60, "a long method: " + lines[start].trim());
                start = -1;
            }
        }
        check(start < 0, "a method without an end");
    }

    /** A run of 512 dear calls is to make little: what is made is kept in rows of the constructor. */
    private static void whatIsMade() {
        com.sun.management.ThreadMXBean threads =
            (com.sun.management.ThreadMXBean) ManagementFactory.getThreadMXBean();
        long thread = Thread.currentThread().getId();
        dearRun();
        long before = threads.getThreadAllocatedBytes(thread);
        dearRun();
        long bytes = threads.getThreadAllocatedBytes(thread) - before;
        System.out.println("a run of 512 dear calls makes " + bytes + " bytes");
        check(bytes < 200_000, "a run makes " + bytes + " bytes");
    }

    private static void dearRun() {
        StageTruths x = new StageTruths();
        String[] texts = {"(a>b|c)>(a>b)|(a>c)|~~d", "a|(a>(b|(b>(c|~c))))", "(a|d)&(b|c)>~(a&b)>c",
            "~~(a|b)&(~c|~~c)", "(a>b)|(b>a)|(c>d)|(d>c)"};
        int calls = 0;
        for (int i = 0; i < 5; i++) {
            calls += x.clearText() * 0 + 2;
            for (char c : texts[i].toCharArray()) {
                x.type(c);
                calls++;
            }
            x.put(i);
        }
        for (int i = 0; calls < 512; calls++, i++) {
            switch (i % 4) {
                case 0 -> x.fewestPremises(31 & ~(1 << i % 5), i % 5);
                case 1 -> x.fewestStages(31 & ~(1 << i % 5), i % 5);
                case 2 -> x.join(4, 0, i % 3, 0);
                default -> x.put(i % 5);
            }
        }
    }
}
