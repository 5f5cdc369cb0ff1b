import java.io.IOException;
import java.lang.reflect.Constructor;
import java.lang.reflect.Field;
import java.lang.reflect.Method;
import java.lang.reflect.Modifier;
import java.nio.file.Files;
import java.nio.file.Path;
import java.util.ArrayList;
import java.util.Arrays;
import java.util.List;
import java.util.TreeSet;
import java.util.regex.Pattern;

/** The public face, the constants, and what of LANGUAGE.md a text search can see. */
public final class FaceTest {
    private static final String[] FACE = {"int day(int)", "int feed(long,int)", "int rule()", "int change(int,int)",
        "int told(int,int,int)", "int paper(int,int)", "int shown(int,boolean)", "int of(int,int)",
        "int follows(int,int,int)", "int many(int)", "int proof(int)", "int step(int,int,int,int,int,int,int)",
        "int lacks(int,int,int)", "int says(int,int,int)", "int check(int,int)", "int leans(int)", "int hole(int,int)",
        "int fill(int,int)", "int act(int,int,int)", "int as(int,int)", "int title(int)", "int stand(int,int)",
        "int fall(int)", "int carry(int,int)", "int clash(int,int)", "int every(int)", "int enough(int,int)",
        "int could(int,int)", "int tactic()", "int run(int,int,int)", "int found(int)", "int image()", "int undo()",
        "int count(int)"};
    private static final String[] BANNED = {"throw", "try", "catch", "finally", "synchronized", "assert", "hashCode",
        "toString", "->", "::", "@", "Exception", "System\\.(?!arraycopy)", "Exact\\("};

    /** LANGUAGE.md, rule 11: parameters of a method, and fields of a class beside its constants. */
    private static final int MOST_PARAMETERS = 7, MOST_FIELDS = 20;

    public static void main(String[] args) throws IOException {
        constants();
        lastCall();
        face();
        allIsPublic();
        inside();
        source();
        Due.end();
    }

    private static void constants() {
        Due.is("NONE", DeedProofs.NONE, -1);
        Due.is("BAD", DeedProofs.BAD, -2);
        Due.is("STATE", DeedProofs.STATE, -3);
        Due.is("FULL", DeedProofs.FULL, -4);
    }

    /** "An object is used for at most 512 calls after it has been made": the 512th is answered as the first. */
    private static void lastCall() {
        DeedProofs office = new DeedProofs();
        Due.is("the first call", office.paper(749, 4), 0);
        for (int call = 2; call <= 509; call++) {
            Due.is("call " + call, office.shown(0, call % 2 == 0), call % 2);
        }
        Due.is("call 510", office.image(), 0);
        Due.is("call 511", office.follows(749, 999, 2), 1);
        Due.is("call 512", office.undo(), 0);
    }

    private static void face() {
        TreeSet<String> due = new TreeSet<>(Arrays.asList(FACE));
        TreeSet<String> names = new TreeSet<>();
        TreeSet<String> seen = new TreeSet<>();
        for (String call : FACE) {
            names.add(call.substring(4, call.indexOf('(')));
        }
        for (Method method : DeedProofs.class.getDeclaredMethods()) {
            if (!Modifier.isPrivate(method.getModifiers())) {
                String types = Arrays.toString(method.getParameterTypes()).replaceAll("[\\[\\] ]", "");
                seen.add(method.getReturnType() + " " + method.getName() + "(" + types + ")");
            } else {
                Due.is("private " + method.getName(), names.contains(method.getName()) ? 1 : 0, 0);
            }
        }
        Due.is("the face is " + seen, seen.equals(due) ? 1 : 0, 1);
        Due.is("constructors", DeedProofs.class.getDeclaredConstructors().length, 1);
        Due.is("the class is final", Modifier.isFinal(DeedProofs.class.getModifiers()) ? 1 : 0, 1);
        int open = 0;
        for (Field field : DeedProofs.class.getDeclaredFields()) {
            open += Modifier.isPrivate(field.getModifiers()) ? 0 : 1;
            boolean fixed = !Modifier.isStatic(field.getModifiers()) || Modifier.isFinal(field.getModifiers());
            Due.is("static " + field.getName() + " is final", fixed ? 1 : 0, 1);
        }
        Due.is("fields that are not private", open, 4);
        for (Class<?> inside : DeedProofs.class.getDeclaredClasses()) {
            Due.is(inside + " is static", Modifier.isStatic(inside.getModifiers()) ? 1 : 0, 1);
            for (Method method : inside.getDeclaredMethods()) {
                Due.is(inside + " " + method.getName(), names.contains(method.getName()) ? 1 : 0, 0);
            }
        }
        Due.is("classes", DeedProofs.class.getDeclaredClasses().length <= 11 ? 1 : 0, 1);
    }

    /** "public final class DeedProofs", "public static final int NONE ..", "public DeedProofs()", "public int day(int n)" .. */
    private static void allIsPublic() {
        Due.is("the class", DeedProofs.class.getModifiers(), Modifier.PUBLIC | Modifier.FINAL);
        Due.holds("it extends nothing", DeedProofs.class.getSuperclass() == Object.class);
        Due.is("it implements nothing", DeedProofs.class.getInterfaces().length, 0);
        Constructor<?> making = DeedProofs.class.getDeclaredConstructors()[0];
        Due.is("the constructor", making.getModifiers(), Modifier.PUBLIC);
        Due.is("its parameters", making.getParameterCount(), 0);
        for (Method method : DeedProofs.class.getDeclaredMethods()) {
            if (!Modifier.isPrivate(method.getModifiers())) {
                Due.is(method.getName(), method.getModifiers(), Modifier.PUBLIC);
            }
        }
        for (Field field : DeedProofs.class.getDeclaredFields()) {
            if (!Modifier.isPrivate(field.getModifiers())) {
                Due.is(field.getName(), field.getModifiers(), Modifier.PUBLIC | Modifier.STATIC | Modifier.FINAL);
                Due.holds(field.getName() + " is an int", field.getType() == int.class);
            }
        }
    }

    private static void inside() {
        List<Class<?>> classes = new ArrayList<>(Arrays.asList(DeedProofs.class.getDeclaredClasses()));
        classes.add(DeedProofs.class);
        for (Class<?> one : classes) {
            int fields = 0;
            for (Field field : one.getDeclaredFields()) {
                boolean fixed = Modifier.isStatic(field.getModifiers());
                fields += fixed ? 0 : 1;
                Due.holds(one + " " + field.getName(), !fixed || Modifier.isFinal(field.getModifiers()));
            }
            Due.holds(one + " has " + fields + " fields", fields <= MOST_FIELDS);
            for (Method method : one.getDeclaredMethods()) {
                Due.holds(one + " " + method.getName(), method.getParameterCount() <= MOST_PARAMETERS);
            }
            Due.is("classes inside " + one, one == DeedProofs.class ? 0 : one.getDeclaredClasses().length, 0);
        }
    }

    private static void source() throws IOException {
        String text = Files.readString(Path.of("src/main/java/DeedProofs.java"));
        String code = text.replaceAll("(?s)/\\*.*?\\*/", "").replaceAll("//[^\n]*", "");
        for (String word : BANNED) {
            boolean isWord = Character.isLetter(word.charAt(0)) && Character.isLetter(word.charAt(word.length() - 1));
            boolean there = Pattern.compile(isWord ? "\\b" + word + "\\b" : word).matcher(code).find();
            Due.is("the code has " + word, there ? 1 : 0, 0);
        }
        int longest = 0;
        int lines = 0;
        for (String line : code.split("\n")) {
            boolean head = line.matches("    (    )?(public|private|int|boolean|void).*\\{");
            lines = head ? 0 : lines + 1;
            longest = line.matches("    (    )?\\}") ? Math.max(longest, lines) : longest;
        }
        Due.is("the longest method has " + longest + " lines", longest <= 60 ? 1 : 0, 1);
    }
}
