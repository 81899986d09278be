import java.lang.reflect.Constructor;
import java.lang.reflect.Field;
import java.lang.reflect.Method;
import java.lang.reflect.Modifier;
import java.nio.charset.StandardCharsets;
import java.nio.file.Files;
import java.nio.file.Path;
import java.util.Arrays;
import java.util.Set;
import java.util.TreeSet;
import java.util.regex.Matcher;
import java.util.regex.Pattern;

/** The document's public face, and the rules of LANGUAGE.md that can be read off the file. */
public final class FormTest {
    private static final Check CHECK = new Check();
    private static final Path SOURCE = Path.of("src/main/java/PaperLayers.java");
    private static final Path DOCUMENT = Path.of("../shared/DOC.md");
    private static final String[] FACE = {"int wall(int,int,int,int)", "int ofLayer(int,int)", "int heat(int)",
        "int wet(int)", "int paste(int,int)", "int heard()", "int counsel(int,int)", "int clash(int)",
        "int putUp(int,int,int)", "int peel()", "int days(int,int,int,int,int)", "int needs(int)", "int gets(int)",
        "int without(int)", "int reading(int,int,int)", "int back(int)", "int orders(int)", "int holds(int)",
        "int advices(int)", "int kinds(int)", "long odds(int,int)", "int sheet(int,int,int)", "int lose(int)",
        "int put(int,int,int)", "long cell(int,int,int)", "int copy(int,int,int,int,int)", "int tell(int)",
        "int stroke(int)", "int as(int,int)", "int trace()", "int fault()", "int many(int)"};

    public static void main(String[] args) throws Exception {
        faceOfTheDocument();
        face();
        constants();
        membersOfClassesInside();
        words();
        CHECK.end();
    }

    /** The list above is the document's, call by call, so that it can't be left behind. */
    private static void faceOfTheDocument() throws java.io.IOException {
        String document = Files.readString(DOCUMENT);
        Matcher call = Pattern.compile("(?m)^    public (int|long) (\\w+)\\(([^)]*)\\);$").matcher(document);
        Set<String> found = new TreeSet<>();
        while (call.find()) {
            found.add(call.group(1) + " " + call.group(2) + "(" + call.group(3).replaceAll("int \\w+(, )?", "int,")
                .replaceAll(",$", "") + ")");
        }
        CHECK.isTrue("the document's face: " + found, found.equals(new TreeSet<>(Arrays.asList(FACE))));
    }

    private static String told(Method m) {
        StringBuilder parameters = new StringBuilder();
        for (Class<?> type : m.getParameterTypes()) {
            parameters.append(parameters.length() == 0 ? "" : ",").append(type.getName());
        }
        return m.getReturnType().getName() + " " + m.getName() + "(" + parameters + ")";
    }

    private static void face() {
        CHECK.isTrue("the class is public and final", Modifier.isPublic(PaperLayers.class.getModifiers())
            && Modifier.isFinal(PaperLayers.class.getModifiers()));
        Set<String> due = new TreeSet<>(Arrays.asList(FACE));
        Set<String> names = new TreeSet<>();
        Set<String> found = new TreeSet<>();
        for (Method m : PaperLayers.class.getDeclaredMethods()) {
            if (Modifier.isPublic(m.getModifiers())) {
                found.add(told(m));
                names.add(m.getName());
                CHECK.isTrue(m.getName() + " is not static", !Modifier.isStatic(m.getModifiers()));
            }
        }
        CHECK.isTrue("the public methods are the face's: " + found, found.equals(due));
        for (Method m : PaperLayers.class.getDeclaredMethods()) {
            if (!Modifier.isPublic(m.getModifiers())) {
                CHECK.isTrue(m.getName() + " is private", Modifier.isPrivate(m.getModifiers()));
                CHECK.isTrue(m.getName() + " bears no public name", !names.contains(m.getName()));
            }
        }
        Constructor<?>[] constructors = PaperLayers.class.getDeclaredConstructors();
        CHECK.due("constructors", constructors.length, 1);
        CHECK.due("its parameters", constructors[0].getParameterCount(), 0);
        CHECK.isTrue("it is public", Modifier.isPublic(constructors[0].getModifiers()));
    }

    private static void constants() throws IllegalAccessException {
        String[] names = {"UNKNOWN", "OUTSIDE", "STATE", "FULL", "NONE", "LOST"};
        long[] numbers = {-1, -2, -3, -4, -9, Long.MIN_VALUE};
        int found = 0;
        for (Field f : PaperLayers.class.getDeclaredFields()) {
            int at = Arrays.asList(names).indexOf(f.getName());
            if (at < 0) {
                CHECK.isTrue(f.getName() + " is private", Modifier.isPrivate(f.getModifiers()));
            } else {
                found++;
                CHECK.due(f.getName(), f.getLong(null), numbers[at]);
                CHECK.isTrue(f.getName() + " is public", Modifier.isPublic(f.getModifiers()));
                CHECK.isTrue(f.getName() + " is its own type", f.getType() == (at == 5 ? long.class : int.class));
            }
            CHECK.isTrue(f.getName() + ", if static, is final",
                !Modifier.isStatic(f.getModifiers()) || Modifier.isFinal(f.getModifiers()));
        }
        CHECK.due("constants of the face", found, names.length);
    }

    private static void membersOfClassesInside() {
        Class<?>[] inside = PaperLayers.class.getDeclaredClasses();
        CHECK.isTrue("at most some twelve classes", inside.length < 12);
        for (Class<?> c : inside) {
            CHECK.isTrue(c.getName() + " is static", Modifier.isStatic(c.getModifiers()));
            CHECK.isTrue(c.getName() + " is not public", !Modifier.isPublic(c.getModifiers()));
            for (Method m : c.getDeclaredMethods()) {
                CHECK.isTrue("parameters of " + m, m.getParameterCount() <= 7);
            }
            for (Method m : PaperLayers.class.getDeclaredMethods()) {
                for (Method own : c.getDeclaredMethods()) {
                    CHECK.isTrue(own + " bears no public name",
                        !Modifier.isPublic(m.getModifiers()) || !own.getName().equals(m.getName()));
                }
            }
        }
    }

    private static void words() throws java.io.IOException {
        String source = Files.readString(SOURCE, StandardCharsets.US_ASCII);
        String code = source.replaceAll("(?s)/\\*.*?\\*/", "").replaceAll("//[^\n]*", "");
        String[] ruledOut = {"\\bthrows?\\b", "\\btry\\b", "\\bcatch\\b", "\\bsynchronized\\b", "\\bassert\\b", "->", "::",
            "\\bimport\\b", "\\bpackage\\b", "\\bprotected\\b", "Exact\\b", "\\bthread\\b", "\\bRandom\\b", "\\bvar\\b",
            "\\bhashCode\\b", "\\btoString\\b", "\\bequals\\b", "\\bstatic\\s*\\{", "\\bdouble\\b", "\\bfloat\\b"};
        for (String word : ruledOut) {
            Matcher m = Pattern.compile(word).matcher(code);
            CHECK.isTrue("the file has no " + word, !m.find());
        }
        CHECK.isTrue("System is for arraycopy alone", !Pattern.compile("System\\.(?!arraycopy\\b)").matcher(code).find());
    }
}
