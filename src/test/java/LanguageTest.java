import com.sun.source.tree.*;
import com.sun.source.util.*;
import java.io.File;
import java.util.*;
import javax.lang.model.element.*;
import javax.lang.model.type.ArrayType;
import javax.lang.model.type.TypeKind;
import javax.lang.model.type.TypeMirror;
import javax.tools.*;

/** Holds the program's text against the rules of LANGUAGE.md that can be read off it. */
public final class LanguageTest {
    private static final Set<String> LIBRARY = Set.of(
            "java.lang.Math.min", "java.lang.Math.max", "java.lang.Math.abs",
            "java.lang.Integer.bitCount", "java.lang.String.length", "java.lang.String.charAt",
            "java.util.Arrays.fill", "java.util.Arrays.copyOf", "java.lang.System.arraycopy",
            "java.lang.Object.clone");
    private static int wrong = 0;

    public static void main(String[] args) throws Exception {
        File file = new File("src/main/java/ExamSlips.java");
        JavaCompiler compiler = ToolProvider.getSystemJavaCompiler();
        StandardJavaFileManager files = compiler.getStandardFileManager(null, null, null);
        JavacTask task = (JavacTask) compiler.getTask(null, files, null,
                List.of("-proc:none"), null, files.getJavaFileObjects(file));
        CompilationUnitTree unit = task.parse().iterator().next();
        task.analyze();
        Rules rules = new Rules(unit, Trees.instance(task));
        rules.scan(unit, null);
        rules.afterAll();
        System.out.println(wrong == 0 ? "LanguageTest: the text keeps to the rules" : "LanguageTest: " + wrong + " breaks");
        if (wrong != 0) {
            System.exit(1);
        }
    }

    private static final class Rules extends TreePathScanner<Void, Void> {
        private final CompilationUnitTree unit;
        private final Trees trees;
        private final LineMap lines;
        private final Map<Element, Set<Element>> calls = new LinkedHashMap<>();
        private final Set<String> publicNames = new HashSet<>();
        private final Map<Element, Long> methods = new LinkedHashMap<>();
        private Element method;
        private int classes = 0;

        Rules(CompilationUnitTree unit, Trees trees) {
            this.unit = unit;
            this.trees = trees;
            this.lines = unit.getLineMap();
        }

        private void broken(int rule, Tree tree, String why) {
            wrong++;
            long at = trees.getSourcePositions().getStartPosition(unit, tree);
            System.out.println("rule " + rule + ", line " + lines.getLineNumber(at) + ": " + why);
        }

        private long lineOf(Tree tree, boolean end) {
            SourcePositions p = trees.getSourcePositions();
            return lines.getLineNumber(end ? p.getEndPosition(unit, tree) : p.getStartPosition(unit, tree));
        }

        @Override
        public Void visitClass(ClassTree tree, Void v) {
            classes++;
            Set<Modifier> flags = tree.getModifiers().getFlags();
            boolean outer = getCurrentPath().getParentPath().getLeaf() instanceof CompilationUnitTree;
            if (outer && !flags.equals(Set.of(Modifier.PUBLIC, Modifier.FINAL))) {
                broken(1, tree, "the class is not public and final");
            }
            if (!outer && !flags.contains(Modifier.STATIC)) {
                broken(2, tree, "a class inside that is not static");
            }
            int fields = 0;
            for (Tree member : tree.getMembers()) {
                if (member instanceof VariableTree field) {
                    Set<Modifier> of = field.getModifiers().getFlags();
                    fields += of.contains(Modifier.STATIC) ? 0 : 1;
                    if (of.contains(Modifier.STATIC) && !of.contains(Modifier.FINAL)) {
                        broken(5, field, "a static field that is not final");
                    }
                    if (outer && !of.contains(Modifier.PRIVATE) && !field.getName().contentEquals("NONE")) {
                        broken(1, field, "a field that can be seen: " + field.getName());
                    }
                }
                if (member instanceof BlockTree) {
                    broken(5, member, "a block of its own");
                }
                if (outer && member instanceof MethodTree m) {
                    Set<Modifier> of = m.getModifiers().getFlags();
                    if (of.contains(Modifier.PUBLIC)) {
                        publicNames.add(m.getName().toString());
                    } else if (!of.contains(Modifier.PRIVATE)) {
                        broken(1, m, "a method that can be seen: " + m.getName());
                    }
                }
            }
            if (fields > 20) {
                broken(11, tree, fields + " fields in " + tree.getSimpleName());
            }
            return super.visitClass(tree, v);
        }

        @Override
        public Void visitMethod(MethodTree tree, Void v) {
            Element before = method;
            method = trees.getElement(getCurrentPath());
            methods.put(method, lineOf(tree, false));
            calls.put(method, new LinkedHashSet<>());
            if (tree.getParameters().size() > 7) {
                broken(11, tree, "more than seven parameters: " + tree.getName());
            }
            if (lineOf(tree, true) - lineOf(tree, false) >= 60) {
                broken(11, tree, "longer than sixty lines: " + tree.getName());
            }
            super.visitMethod(tree, v);
            method = before;
            return null;
        }

        @Override
        public Void visitMethodInvocation(MethodInvocationTree tree, Void v) {
            Element called = trees.getElement(new TreePath(getCurrentPath(), tree.getMethodSelect()));
            note(tree, called);
            if (called.getEnclosingElement().toString().equals("java.util.Arrays") && !takesNumbers(tree)) {
                broken(4, tree, "not over an array of numbers: " + called.getSimpleName());
            }
            return super.visitMethodInvocation(tree, v);
        }

        private boolean takesNumbers(MethodInvocationTree tree) {
            TypeMirror first = trees.getTypeMirror(new TreePath(getCurrentPath(), tree.getArguments().get(0)));
            return first instanceof ArrayType array && array.getComponentType().getKind().isPrimitive()
                    && array.getComponentType().getKind() != TypeKind.BOOLEAN;
        }

        @Override
        public Void visitNewClass(NewClassTree tree, Void v) {
            if (tree.getClassBody() != null) {
                broken(2, tree, "a class without a name");
            }
            note(tree, trees.getElement(getCurrentPath()));
            return super.visitNewClass(tree, v);
        }

        private void note(Tree tree, Element called) {
            String owner = called.getEnclosingElement().toString();
            if (owner.startsWith("ExamSlips")) {
                if (method != null) {
                    calls.get(method).add(called);
                }
            } else if (called.getKind() != ElementKind.CONSTRUCTOR) {
                String name = (owner.equals("Array") ? "java.lang.Object" : owner) + "." + called.getSimpleName();
                if (!LIBRARY.contains(name)) {
                    broken(4, tree, "not of the library: " + name);
                }
            } else if (!owner.equals("java.lang.Object")) {
                broken(4, tree, "not of the library: new " + owner);
            }
        }

        @Override
        public Void visitBinary(BinaryTree tree, Void v) {
            if (trees.getTypeMirror(getCurrentPath()).getKind() == TypeKind.DECLARED) {
                broken(10, tree, "texts joined by +");
            }
            return super.visitBinary(tree, v);
        }

        @Override
        public Void visitThrow(ThrowTree tree, Void v) {
            broken(6, tree, "throw");
            return null;
        }

        @Override
        public Void visitTry(TryTree tree, Void v) {
            broken(6, tree, "try");
            return null;
        }

        @Override
        public Void visitAssert(AssertTree tree, Void v) {
            broken(6, tree, "assert");
            return null;
        }

        @Override
        public Void visitSynchronized(SynchronizedTree tree, Void v) {
            broken(6, tree, "synchronized");
            return null;
        }

        @Override
        public Void visitLambdaExpression(LambdaExpressionTree tree, Void v) {
            broken(2, tree, "a lambda");
            return null;
        }

        @Override
        public Void visitMemberReference(MemberReferenceTree tree, Void v) {
            broken(2, tree, "a method reference");
            return null;
        }

        void afterAll() {
            if (classes > 12) {
                broken(11, unit, classes + " classes");
            }
            for (Element m : methods.keySet()) {
                boolean inside = !m.getEnclosingElement().getSimpleName().contentEquals("ExamSlips");
                boolean seen = m.getModifiers().contains(Modifier.PUBLIC);
                boolean makes = m.getKind() == ElementKind.CONSTRUCTOR;
                if (!makes && (inside || !seen) && publicNames.contains(m.getSimpleName().toString())) {
                    wrong++;
                    System.out.println("rule 1: " + m + " bears the name of a public one");
                }
                if (seen) {
                    int deep = deepest(m, new ArrayList<>());
                    if (deep > 8) {
                        wrong++;
                        System.out.println("rule 11: " + m + " goes " + deep + " deep");
                    }
                }
            }
        }

        /** The longest row of open calls in which none stands twice; private ones alone recur. */
        private int deepest(Element m, List<Element> open) {
            if (open.contains(m)) {
                if (!m.getModifiers().contains(Modifier.PRIVATE)) {
                    wrong++;
                    System.out.println("rule 8: " + m + " calls itself and is not private");
                }
                return 0;
            }
            open.add(m);
            int most = 0;
            for (Element next : calls.getOrDefault(m, Set.of())) {
                most = Math.max(most, deepest(next, open));
            }
            open.remove(m);
            return 1 + most;
        }
    }
}
