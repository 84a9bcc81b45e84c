import java.io.IOException;
import java.lang.reflect.Constructor;
import java.lang.reflect.Field;
import java.lang.reflect.Method;
import java.lang.reflect.Modifier;
import java.nio.file.Files;
import java.nio.file.Path;
import java.util.NoSuchElementException;
import java.util.Random;
import java.util.Set;
import java.util.TreeSet;
import java.util.regex.Matcher;
import java.util.regex.Pattern;

/** The public face is the document's and no more, and no call throws what the document does not name. */
public final class FaceTest {
    private static final Check CHECK = new Check("FaceTest");
    private static final String[] FACE = {"int feed(int,int)", "boolean end(int)", "int style(int)", "int row()",
        "void clear()", "boolean window(int)", "boolean price(int,int)", "int read(int,int,int)", "int readings(int)",
        "int cost()", "int told(int)", "int day(int,int)", "int kind(int)", "int second(int)", "int many(int)",
        "int spans()", "int part(int,int)", "int number(int,int,int)", "int write(int,int,int)", "int same(int)",
        "int count(int)"};

    private static final Path DOCUMENT = Path.of("../shared/DOC.md");
    private static final Pattern METHOD_THERE = Pattern.compile("(?m)^    public (\\w+ \\w+\\([^)]*\\))[^;=]*;");

    public static void main(String[] args) throws IOException {
        faceOfDocument();
        methods();
        declaredExceptions();
        otherMembers();
        anyArguments();
        CHECK.finish();
    }

    /** The face that the other tests here hold the class to is the one that stands in the document. */
    private static void faceOfDocument() throws IOException {
        if (!Files.exists(DOCUMENT)) {
            System.out.println("FaceTest: there is no " + DOCUMENT + " here, so the face is not looked up");
            return;
        }
        Set<String> left = new TreeSet<>(Set.of(FACE));
        Matcher method = METHOD_THERE.matcher(Files.readString(DOCUMENT));
        while (method.find()) {
            String text = method.group(1).replaceAll("(\\w+) \\w+(?=[,)])", "$1").replace(", ", ",");
            CHECK.due("the document's " + text, left.remove(text), true);
        }
        CHECK.due("not in the document: " + left, left.size(), 0);
    }

    private static void declaredExceptions() {
        for (Method m : DayColumn.class.getDeclaredMethods()) {
            Class<?>[] thrown = m.getExceptionTypes();
            boolean isPart = m.getName().equals("part");
            CHECK.due("exceptions that " + m.getName() + " declares", thrown.length, isPart ? 1 : 0);
            if (isPart && thrown.length == 1) {
                CHECK.due("part declares NoSuchElementException", thrown[0] == NoSuchElementException.class, true);
            }
        }
    }

    private static void methods() {
        Set<String> due = new TreeSet<>(Set.of(FACE));
        Set<String> names = new TreeSet<>();
        for (String f : FACE) {
            names.add(f.substring(f.indexOf(' ') + 1, f.indexOf('(')));
        }
        for (Method m : DayColumn.class.getDeclaredMethods()) {
            if (Modifier.isPrivate(m.getModifiers())) {
                CHECK.due("private " + m.getName(), names.contains(m.getName()), false);
                continue;
            }
            StringBuilder text = new StringBuilder(m.getReturnType() + " " + m.getName() + "(");
            for (Class<?> type : m.getParameterTypes()) {
                text.append(text.charAt(text.length() - 1) == '(' ? "" : ",").append(type);
            }
            CHECK.due("face has " + text, due.remove(text.append(')').toString()), true);
            CHECK.due("public " + text, Modifier.isPublic(m.getModifiers()), true);
            CHECK.due("of an object: " + text, Modifier.isStatic(m.getModifiers()), false);
        }
        CHECK.due("missing " + due, due.size(), 0);
    }

    private static void otherMembers() {
        CHECK.due("public", Modifier.isPublic(DayColumn.class.getModifiers()), true);
        CHECK.due("final", Modifier.isFinal(DayColumn.class.getModifiers()), true);
        for (Field f : DayColumn.class.getDeclaredFields()) {
            boolean open = !Modifier.isPrivate(f.getModifiers());
            CHECK.due("field " + f.getName(), open, f.getName().equals("NONE"));
            CHECK.due("static is final: " + f.getName(),
                    Modifier.isStatic(f.getModifiers()) && !Modifier.isFinal(f.getModifiers()), false);
        }
        CHECK.due("NONE", DayColumn.NONE, -1);
        for (Constructor<?> c : DayColumn.class.getDeclaredConstructors()) {
            CHECK.due("constructor", c.getParameterCount(), 0);
            CHECK.due("public constructor", Modifier.isPublic(c.getModifiers()), true);
        }
        for (Class<?> c : DayColumn.class.getDeclaredClasses()) {
            CHECK.due("class inside " + c.getName(), Modifier.isStatic(c.getModifiers()), true);
        }
    }

    private static int wild(Random random) {
        switch (random.nextInt(6)) {
            case 0:
                return random.nextInt();
            case 1:
                return Integer.MIN_VALUE + random.nextInt(2);
            case 2:
                return Integer.MAX_VALUE - random.nextInt(2);
            default:
                return random.nextInt(40) - 4;
        }
    }

    private static void anyArguments() {
        Random random = new Random(7);
        for (int run = 0; run < 4000; run++) {
            DayColumn x = new DayColumn();
            int made = 0;
            while (made < 500) {
                if (random.nextInt(3) == 0) {
                    String text = OracleTest.PATTERNS[random.nextInt(OracleTest.PATTERNS.length)];
                    Check.put(x, text);
                    made += 1 + (text.length() + 7) / 8;
                }
                int which = random.nextInt(FACE.length);
                made++;
                try {
                    callAny(x, which, wild(random), wild(random), wild(random));
                } catch (NoSuchElementException e) {
                    CHECK.due("only part throws", FACE[which].startsWith("int part("), true);
                } catch (RuntimeException e) {
                    CHECK.due(FACE[which] + " throws " + e, 1, 0);
                }
            }
        }
    }

    private static void callAny(DayColumn x, int which, int a, int b, int c) {
        switch (which) {
            case 0: x.feed(a, b); break;
            case 1: x.end(a); break;
            case 2: x.style(a); break;
            case 3: x.row(); break;
            case 4: if (a % 16 == 0) { x.clear(); } break;
            case 5: x.window(a); break;
            case 6: x.price(a, b); break;
            case 7: x.read(a, b, c); break;
            case 8: x.readings(a); break;
            case 9: x.cost(); break;
            case 10: x.told(a); break;
            case 11: x.day(a, b); break;
            case 12: x.kind(a); break;
            case 13: x.second(a); break;
            case 14: x.many(a); break;
            case 15: x.spans(); break;
            case 16: x.part(a, b); break;
            case 17: x.number(a, b, c); break;
            case 18: x.write(a, b, c); break;
            case 19: x.same(a); break;
            default: x.count(a); break;
        }
    }
}
