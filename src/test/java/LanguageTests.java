import java.io.IOException;
import java.lang.management.ManagementFactory;
import java.lang.reflect.Constructor;
import java.lang.reflect.Field;
import java.lang.reflect.Method;
import java.lang.reflect.Modifier;
import java.nio.file.Files;
import java.nio.file.Path;
import java.util.Set;
import java.util.TreeSet;
import java.util.regex.Matcher;
import java.util.regex.Pattern;

/** What can be seen of LANGUAGE.md from outside: the face, the source's words, what a call makes. */
public final class LanguageTests {
    private static final String[] FORBIDDEN = {
        "\\b(throw|throws|try|catch|synchronized|assert|import|package|finally|interface|record)\\b",
        "->", "::", "@\\w", "\\b(equals|hashCode|toString|getClass)\\b", "Exact\\b",
        "\\b(System\\.(?!arraycopy)|Thread|Runtime|Random|Math\\.random|String\\.format)",
        "\\b(double|float|Object|Map|Set)\\b", "\\bprotected\\b", "\\binstanceof\\b"
    };

    private LanguageTests() {
    }

    public static void main(String[] args) throws IOException {
        String source = withoutComments(Files.readString(Path.of(args[1])));
        theFace(Files.readString(Path.of(args[0])));
        onlyFinalStatics(SaltClouds.class);
        for (Class<?> inner : SaltClouds.class.getDeclaredClasses()) {
            anInnerClass(inner);
        }
        forbiddenWords(source);
        shortMethods(source);
        callsMakeNothing();
        Report.end("LanguageTests");
    }

    private static String withoutComments(String source) {
        return source.replaceAll("(?s)/\\*.*?\\*/", "").replaceAll("//[^\n]*", "");
    }

    private static void theFace(String doc) {
        Set<String> promised = new TreeSet<>();
        Matcher lines = Pattern.compile("(?m)^    public (int \\w+\\(.*\\));$").matcher(doc);
        while (lines.find()) {
            promised.add(lines.group(1).replaceAll("(int|long) \\w+(?=[,)])", "$1"));
        }
        Set<String> standing = new TreeSet<>();
        for (Method method : SaltClouds.class.getDeclaredMethods()) {
            if (!Modifier.isPrivate(method.getModifiers())) {
                Report.dueThat(Modifier.toString(method.getModifiers()).equals("public"), method + " is not just public");
                StringBuilder types = new StringBuilder();
                for (Class<?> type : method.getParameterTypes()) {
                    types.append(types.length() == 0 ? "" : ", ").append(type.getName());
                }
                standing.add(method.getReturnType().getName() + " " + method.getName() + "(" + types + ")");
            }
        }
        Report.dueThat(promised.size() == 39 && promised.equals(standing), "the face is " + standing + ", due is " + promised);
        Constructor<?>[] constructors = SaltClouds.class.getDeclaredConstructors();
        Report.dueThat(constructors.length == 1 && Modifier.isPublic(constructors[0].getModifiers())
            && constructors[0].getParameterCount() == 0, "one public constructor");
        Report.dueThat(Modifier.toString(SaltClouds.class.getModifiers()).equals("public final"), "public final class");
        for (Field field : SaltClouds.class.getDeclaredFields()) {
            Report.dueThat(Modifier.isPrivate(field.getModifiers()), field + " is not private");
        }
    }

    private static void onlyFinalStatics(Class<?> type) {
        int fields = 0;
        for (Field field : type.getDeclaredFields()) {
            if (Modifier.isStatic(field.getModifiers())) {
                Report.dueThat(Modifier.isFinal(field.getModifiers()) && field.getType() == int.class, field + " is static");
            } else {
                fields++;
            }
        }
        Report.dueThat(fields <= 20, type + " has " + fields + " fields");
    }

    private static void anInnerClass(Class<?> inner) {
        int modifiers = inner.getModifiers();
        Report.dueThat(Modifier.isStatic(modifiers) && !Modifier.isPublic(modifiers), inner + " is not static and inside");
        onlyFinalStatics(inner);
        for (Method method : inner.getDeclaredMethods()) {
            for (Method face : SaltClouds.class.getDeclaredMethods()) {
                boolean isSame = Modifier.isPublic(face.getModifiers()) && face.getName().equals(method.getName());
                Report.dueThat(!isSame, method + " bears the name of a public one");
            }
            Report.dueThat(method.getParameterCount() <= 7, method + " takes too much");
        }
    }

    private static void forbiddenWords(String source) {
        for (String forbidden : FORBIDDEN) {
            Matcher found = Pattern.compile(forbidden).matcher(source);
            Report.dueThat(!found.find(), "the source has a forbidden word: " + forbidden);
        }
        for (int i = 0; i < source.length(); i++) {
            if (source.charAt(i) > 126) {
                Report.fail("the source has a sign above 126");
            }
        }
        int classes = source.split("\\bclass\\b", -1).length - 1;
        Report.dueThat(classes <= 12, "the file has " + classes + " classes");
    }

    private static void shortMethods(String source) {
        String[] lines = source.split("\n");
        Pattern head = Pattern.compile("^( +)(public |private |static |final )*[\\w\\[\\]]+ ?\\w*\\(.*\\) \\{$");
        for (int i = 0; i < lines.length; i++) {
            Matcher found = head.matcher(lines[i]);
            if (found.matches() && !lines[i].matches(" +(if|for|while|switch|else|return)\\b.*")) {
                int end = i;
                while (end < lines.length && !lines[end].equals(found.group(1) + "}")) {
                    end++;
                }
                Report.dueThat(end - i < 60, "a method of " + (end - i) + " lines: " + lines[i].trim());
            }
        }
    }

    /** One room holds all objects of a run, so what a new object takes is all that it may take. */
    private static void callsMakeNothing() {
        com.sun.management.ThreadMXBean threads =
            (com.sun.management.ThreadMXBean) ManagementFactory.getThreadMXBean();
        SaltClouds c = new SaltClouds();
        useAll(c);
        useAll(new SaltClouds());
        long before = threads.getCurrentThreadAllocatedBytes();
        for (int i = 0; i < 50; i++) {
            useAll(c);
        }
        long taken = threads.getCurrentThreadAllocatedBytes() - before;
        Report.dueThat(taken < 5000, "50 rounds of all calls took " + taken + " bytes");
        before = threads.getCurrentThreadAllocatedBytes();
        for (int i = 0; i < 100; i++) {
            new SaltClouds().count(0);
        }
        taken = (threads.getCurrentThreadAllocatedBytes() - before) / 100;
        Report.dueThat(taken < 20000, "a new object took " + taken + " bytes");
    }

    private static void useAll(SaltClouds c) {
        for (int i = 0; i < 9; i++) {
            c.cloud(10 * i + 3, i % 3, 50 * i);
            c.set(i, 2, 5 * i);
            c.hill(i, i);
            c.wind(i, i % 3);
        }
        c.feed(0x74L, 1);
        c.text(0);
        c.feed(0x2928L, 2);
        c.text(1);
        c.law(1, 2, 3, 4);
        c.hours(3);
        c.loose(3);
        c.pay();
        c.paid();
        c.join(0, 3);
        c.part(0, 3);
        for (int i = 0; i < 8; i++) {
            c.voice(i, 3, i);
            c.trace(i);
            c.ofCloud(i, 9);
            c.nobodyBy(i);
            c.sun(i, 5, 0);
            c.as(i, 3);
            c.become(i, 7 * i);
            c.count(i);
        }
        c.first();
        c.meets(1, 2);
        c.comes(9, 0);
        c.stays(1);
        c.sheet(0, 16, 4);
        c.put(0, 1, 3);
        c.move(0, 0, 0, 1, 2);
        c.storm(0, 0);
        c.winds(1, 0, 0);
        c.hills(0);
        c.judge(0);
        c.tell(3);
        c.check();
        c.image();
        c.restore();
        c.seed(4);
        c.then(20, 1, 3);
        c.told(1);
    }
}
