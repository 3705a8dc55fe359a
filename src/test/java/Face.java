import java.lang.reflect.Constructor;
import java.lang.reflect.Field;
import java.lang.reflect.Method;
import java.lang.reflect.Modifier;
import java.nio.file.Files;
import java.nio.file.Path;
import java.util.ArrayList;
import java.util.List;
import java.util.TreeSet;
import java.util.regex.Matcher;
import java.util.regex.Pattern;

/** The public face as ../shared/DOC.md writes it out, and nothing else to be seen from outside. */
public final class Face {
    private static final int METHODS = 54;
    private static final Pattern WRITTEN =
        Pattern.compile("    public (\\w+) (\\w+)\\(([^)]*)\\)( throws NoSuchElementException)?;");

    private static final List<String> faults = new ArrayList<>();

    public static void main(String[] args) throws Exception {
        TreeSet<String> due = written(Files.readAllLines(Path.of("../shared/DOC.md")));
        if (due.size() != METHODS) {
            faults.add(due.size() + " methods are read in DOC.md, " + METHODS + " are due");
        }
        TreeSet<String> names = methods(due);
        insideClasses(names);
        fields();
        constructors();
        int modifiers = LighterAtDusk.class.getModifiers();
        boolean plain = LighterAtDusk.class.getInterfaces().length == 0 && LighterAtDusk.class.getSuperclass() == Object.class;
        if (!Modifier.isPublic(modifiers) || !Modifier.isFinal(modifiers) || !plain) {
            faults.add("the class is not as written");
        }
        for (String fault : faults) {
            System.out.println(fault);
        }
        System.out.println(METHODS + " methods looked for, " + faults.size() + " faults");
        if (!faults.isEmpty()) {
            System.exit(1);
        }
    }

    private static TreeSet<String> written(List<String> lines) {
        TreeSet<String> face = new TreeSet<>();
        for (String line : lines) {
            Matcher method = WRITTEN.matcher(line);
            if (method.matches()) {
                String types = method.group(3).replaceAll(" \\w+(?=,|$)", "").replace(" ", "");
                face.add("public " + method.group(1) + " " + method.group(2) + "(" + types + ")"
                    + (method.group(4) == null ? "" : method.group(4)));
            }
        }
        return face;
    }

    private static String told(Method method) {
        StringBuilder out = new StringBuilder();
        out.append(Modifier.toString(method.getModifiers())).append(' ');
        out.append(method.getReturnType()).append(' ').append(method.getName()).append('(');
        for (Class<?> type : method.getParameterTypes()) {
            out.append(out.charAt(out.length() - 1) == '(' ? "" : ",").append(type);
        }
        out.append(')');
        for (Class<?> type : method.getExceptionTypes()) {
            out.append(" throws ").append(type.getSimpleName());
        }
        return out.toString();
    }

    private static TreeSet<String> methods(TreeSet<String> due) {
        TreeSet<String> names = new TreeSet<>();
        TreeSet<String> own = new TreeSet<>();
        for (Method method : LighterAtDusk.class.getDeclaredMethods()) {
            if (Modifier.isPrivate(method.getModifiers()) || method.isSynthetic()) {
                own.add(method.getName());
            } else {
                names.add(method.getName());
                if (!due.remove(told(method))) {
                    faults.add("not of the face: " + told(method));
                }
            }
        }
        for (String missing : due) {
            faults.add("missing: " + missing);
        }
        own.retainAll(names);
        for (String name : own) {
            faults.add("private, but of a public one's name: " + name);
        }
        return names;
    }

    private static void insideClasses(TreeSet<String> names) {
        for (Class<?> inside : LighterAtDusk.class.getDeclaredClasses()) {
            int modifiers = inside.getModifiers();
            if (Modifier.isPublic(modifiers) || Modifier.isProtected(modifiers) || !Modifier.isStatic(modifiers)) {
                faults.add("inside, but to be seen, or not static: " + inside.getSimpleName());
            }
            for (Method method : inside.getDeclaredMethods()) {
                if (names.contains(method.getName())) {
                    faults.add("inside, but of a public one's name: " + inside.getSimpleName() + "." + method.getName());
                }
            }
        }
    }

    private static void fields() throws IllegalAccessException {
        boolean none = false;
        for (Field field : LighterAtDusk.class.getDeclaredFields()) {
            int modifiers = field.getModifiers();
            if (field.getName().equals("NONE")) {
                none = Modifier.toString(modifiers).equals("public static final") && field.getType() == int.class
                    && field.getInt(null) == -1;
            } else if (!Modifier.isPrivate(modifiers)) {
                faults.add("not of the face: " + field);
            }
            if (Modifier.isStatic(modifiers) && !Modifier.isFinal(modifiers)) {
                faults.add("static, but not final: " + field);
            }
        }
        if (!none) {
            faults.add("NONE is not as written");
        }
    }

    private static void constructors() {
        Constructor<?>[] all = LighterAtDusk.class.getDeclaredConstructors();
        if (all.length != 1 || !Modifier.isPublic(all[0].getModifiers()) || all[0].getParameterCount() != 0) {
            faults.add("the constructor is not as written");
        }
    }
}
