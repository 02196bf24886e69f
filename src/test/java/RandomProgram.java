import java.util.ArrayList;
import java.util.Arrays;
import java.util.HashSet;
import java.util.List;
import java.util.Random;
import java.util.Set;

/** Makes programs at random, of which most have no ERRORS: two to five classes and one with main. */
final class RandomProgram {
    private record Field(String name, String type, boolean isStatic) { }

    private record Method(String name, String result, boolean isStatic, List<String> params) { }

    private record Local(String name, String type) { }

    private final Random random;
    private final StringBuilder s = new StringBuilder();
    private final String[] classes;
    private final int[] above;
    private final List<List<Field>> fields = new ArrayList<>();
    private final List<List<Method>> methods = new ArrayList<>();
    private final List<Local> locals = new ArrayList<>();
    private int current;
    private boolean inStatic;
    private int names;
    private int calls;

    RandomProgram(long seed) {
        random = new Random(seed);
        classes = new String[2 + random.nextInt(4)];
        above = new int[classes.length];
        for (int i = 0; i < classes.length; i++) {
            classes[i] = "" + (char) ('A' + i);
            above[i] = i == 0 || one(3) ? -1 : draw(i);
        }
    }

    private int draw(int n) {
        return random.nextInt(n);
    }

    /** True one time of n. */
    private boolean one(int n) {
        return random.nextInt(n) == 0;
    }

    private String type() {
        int k = draw(5 + classes.length);
        return k < 4 ? "int" : k < 6 ? "bool" : classes[draw(classes.length)];
    }

    private int classOf(String type) {
        return type.length() == 1 ? type.charAt(0) - 'A' : -1;
    }

    private boolean fits(String type, String wanted) {
        for (int c = classOf(type); c >= 0; c = above[c]) {
            if (classes[c].equals(wanted)) {
                return true;
            }
        }
        return type.equals(wanted);
    }

    String text() {
        for (int i = 0; i < classes.length; i++) {
            tellFields();
            tellMethods(i);
        }
        for (int i = 0; i < classes.length; i++) {
            current = i;
            s.append("class ").append(classes[i]).append(above[i] >= 0 ? " extends " + classes[above[i]] : "").append(" {\n");
            for (Field f : fields.get(i)) {
                s.append(f.isStatic ? "  static " : "  ").append(f.type).append(' ').append(f.name);
                if (one(2)) {
                    s.append(" = ").append(f.type.equals("int") ? "" + draw(9) : f.type.equals("bool") ? "" + one(2) : "null");
                }
                s.append(";\n");
            }
            for (Method m : methods.get(i)) {
                method(m);
            }
            s.append("}\n");
        }
        current = -1;
        s.append("class M {\n");
        method(new Method("main", "void", true, List.of()));
        return s.append("}\n").toString();
    }

    private void tellFields() {
        List<Field> own = new ArrayList<>();
        Set<String> seen = new HashSet<>();
        for (int k = draw(4); k > 0; k--) {
            String name = "f" + draw(5);
            if (seen.add(name)) {
                own.add(new Field(name, type(), one(4)));
            }
        }
        fields.add(own);
    }

    private void tellMethods(int i) {
        List<Method> own = new ArrayList<>();
        Set<String> seen = new HashSet<>();
        for (int k = draw(4); k > 0; k--) {
            List<Method> high = above[i] >= 0 ? methods.get(above[i]) : List.of();
            Method m = null;
            if (!high.isEmpty() && one(2)) {
                m = high.get(draw(high.size()));
                m = m.isStatic ? null : m;
            } else {
                String[] params = new String[draw(4)];
                Arrays.setAll(params, p -> type());
                String name = "m" + (one(3) ? draw(3) : i * 3 + draw(3));
                m = new Method(name, one(3) ? "void" : type(), one(4), List.of(params));
            }
            if (m != null && seen.add(m.name + m.params)) {
                own.add(m);
            }
        }
        methods.add(own);
    }

    private void method(Method m) {
        inStatic = m.isStatic;
        locals.clear();
        calls = 0;
        s.append(m.isStatic ? "  static " : "  ").append(m.result).append(' ').append(m.name).append('(');
        for (int i = 0; i < m.params.size(); i++) {
            s.append(i > 0 ? ", " : "").append(m.params.get(i)).append(" p").append(i);
            locals.add(new Local("p" + i, m.params.get(i)));
        }
        s.append(") {\n");
        if (m.name.equals("main")) {
            for (int i = 0; i < classes.length; i++) {
                s.append("    ").append(classes[i]).append(" o").append(i).append(" = new ").append(classes[i]).append("();\n");
                locals.add(new Local("o" + i, classes[i]));
            }
        }
        boolean isShort = one(5) && !m.result.equals("void");
        for (int k = isShort ? 0 : 1 + draw(m.name.equals("main") ? 9 : 4); k > 0; k--) {
            statement(3);
        }
        if (!m.result.equals("void")) {
            s.append("    return ").append(exp(m.result, 3)).append(";\n");
        }
        s.append("  }\n");
    }

    private void forget(int known) {
        while (locals.size() > known) {
            locals.remove(locals.size() - 1);
        }
    }

    private void block(int depth) {
        int known = locals.size();
        s.append("{ ");
        for (int k = 1 + draw(3); k > 0; k--) {
            statement(depth - 1);
        }
        s.append("} ");
        forget(known);
    }

    private void statement(int depth) {
        int k = draw(12);
        String call = k > 9 ? call(null, 2) : null;
        if (k < 3) {
            Local l = new Local("v" + names++, type());
            s.append("    ").append(l.type).append(' ').append(l.name).append(" = ").append(exp(l.type, 3)).append(";\n");
            locals.add(l);
        } else if (k < 5 && !targets().isEmpty()) {
            Local l = targets().get(draw(targets().size()));
            s.append("    ").append(l.name).append(" = ").append(exp(l.type, 3)).append(";\n");
        } else if (k > 6 && k < 9 && depth > 0) {
            s.append("    if (").append(exp("bool", 2)).append(") ");
            branch(depth);
            if (one(2)) {
                s.append(" else ");
                branch(depth);
            }
            s.append("\n");
        } else if (k == 9 && depth > 0) {
            loop(depth);
        } else if (call != null) {
            s.append("    ").append(call).append(";\n");
        } else {
            s.append("    print ").append(exp(one(4) ? "bool" : "int", 2)).append(";\n");
        }
    }

    private void branch(int depth) {
        if (one(3)) {
            s.append("print ").append(exp("int", 1)).append("; ");
        } else {
            block(depth);
        }
    }

    private void loop(int depth) {
        Local l = new Local("v" + names++, "int");
        s.append("    int ").append(l.name).append(" = 0;\n    while (").append(l.name).append(" < ").append(1 + draw(3));
        s.append(") { ").append(l.name).append(" = ").append(l.name).append(" + 1; ");
        int known = locals.size();
        int before = calls;
        calls = 9;
        locals.add(l);
        for (int k = 1 + draw(2); k > 0; k--) {
            statement(depth - 1);
        }
        forget(known);
        calls = before;
        locals.add(l);
        s.append("}\n");
    }

    /** What may stand in front of =. */
    private List<Local> targets() {
        List<Local> c = new ArrayList<>();
        for (Local l : locals) {
            if (!l.name.startsWith("o")) {
                c.add(l);
            }
            if (classOf(l.type) >= 0) {
                for (Field f : fields.get(classOf(l.type))) {
                    if (!f.isStatic) {
                        c.add(new Local(l.name + "." + f.name, f.type));
                    }
                }
            }
        }
        for (Field f : visible()) {
            c.add(new Local(f.name, f.type));
        }
        return c;
    }

    private List<Field> visible() {
        List<Field> v = new ArrayList<>();
        Set<String> seen = new HashSet<>();
        for (int c = current; c >= 0; c = above[c]) {
            for (Field f : fields.get(c)) {
                if (seen.add(f.name) && (!inStatic || f.isStatic)) {
                    v.add(f);
                }
            }
        }
        return v;
    }

    private String exp(String type, int depth) {
        String call = depth > 0 && one(5) ? call(type, depth - 1) : null;
        if (call != null) {
            return call;
        }
        if (depth > 0 && type.equals("int") && !one(3)) {
            switch (draw(8)) {
                case 0: return "-" + exp("int", 0);
                case 1: return "(" + exp("int", depth - 1) + ")";
                case 2: return exp("int", 0) + (one(3) ? " / " : " - ") + exp("int", 0);
                default: return exp("int", depth - 1) + List.of(" + ", " - ", " * ").get(draw(3)) + exp("int", depth - 1);
            }
        }
        if (depth > 0 && type.equals("bool") && !one(3)) {
            String c = classes[draw(classes.length)];
            switch (draw(6)) {
                case 0: return "!(" + exp("bool", depth - 1) + ")";
                case 1: return exp("bool", depth - 1) + " && " + exp("bool", depth - 1);
                case 2: return "(" + exp("bool", depth - 1) + " || " + exp("bool", depth - 1) + ")";
                case 3: return exp(c, 0) + " == " + exp(c, 0);
                default: return exp("int", depth - 1) + List.of(" < ", " == ", " >= ").get(draw(3)) + exp("int", depth - 1);
            }
        }
        List<String> c = simple(type);
        return c.get(draw(c.size()));
    }

    private List<String> simple(String type) {
        List<String> c = new ArrayList<>();
        for (Local l : locals) {
            if (fits(l.type, type)) {
                c.add(l.name);
                c.add(l.name);
            }
            for (int k = classOf(l.type); k >= 0; k = above[k]) {
                for (Field f : fields.get(k)) {
                    if (!f.isStatic && fits(f.type, type)) {
                        c.add(l.name + "." + f.name);
                    }
                }
            }
        }
        for (Field f : visible()) {
            if (fits(f.type, type)) {
                c.add(f.name);
            }
        }
        for (int k = 0; k < classes.length; k++) {
            for (Field f : fields.get(k)) {
                if (f.isStatic && fits(f.type, type)) {
                    c.add(classes[k] + "." + f.name);
                }
            }
        }
        if (type.equals("int")) {
            c.addAll(List.of("" + draw(10), "" + draw(10), one(4) ? "read" : "1"));
        } else if (type.equals("bool")) {
            c.addAll(List.of("true", "false"));
        } else {
            c.addAll(List.of("new " + type + "()", one(4) ? "null" : "new " + type + "()"));
            if (!inStatic && current >= 0 && fits(classes[current], type)) {
                c.add("this");
            }
        }
        return c;
    }

    /** A call of a method with this result, or any if it is null; null if there is none. */
    private String call(String type, int depth) {
        List<String> fronts = new ArrayList<>();
        List<Method> c = new ArrayList<>();
        for (int k = 0; k < classes.length; k++) {
            for (Method m : methods.get(k)) {
                if (type == null || fits(m.result, type)) {
                    boolean own = current >= 0 && fits(classes[current], classes[k]) && (m.isStatic || !inStatic);
                    if (own || m.isStatic) {
                        fronts.add(m.isStatic && (!own || one(2)) ? classes[k] + "." : m.isStatic || one(2) ? "" : "this.");
                        c.add(m);
                    }
                    for (Local l : locals) {
                        if (!m.isStatic && fits(l.type, classes[k])) {
                            fronts.add(l.name + ".");
                            c.add(m);
                        }
                    }
                }
            }
        }
        if (c.isEmpty() || calls > 2) {
            return null;
        }
        calls++;
        int k = draw(c.size());
        StringBuilder b = new StringBuilder(fronts.get(k)).append(c.get(k).name).append('(');
        for (int i = 0; i < c.get(k).params.size(); i++) {
            b.append(i > 0 ? ", " : "").append(exp(c.get(k).params.get(i), draw(3)));
        }
        return b.append(')').toString();
    }
}
