import java.io.ByteArrayOutputStream;
import java.io.IOException;
import java.io.OutputStream;
import java.net.URI;
import java.util.ArrayList;
import java.util.List;
import java.util.Map;
import java.util.TreeMap;
import javax.tools.FileObject;
import javax.tools.ForwardingJavaFileManager;
import javax.tools.JavaCompiler;
import javax.tools.JavaFileManager;
import javax.tools.JavaFileObject;
import javax.tools.SimpleJavaFileObject;
import javax.tools.ToolProvider;

/** The compiler itself, from texts to class files, without files on the disk. */
final class Javac {
    private static final class Source extends SimpleJavaFileObject {
        private final String text;

        Source(String className, String text) {
            super(URI.create("string:///" + className + ".java"), Kind.SOURCE);
            this.text = text;
        }

        @Override
        public CharSequence getCharContent(boolean ignoreEncodingErrors) {
            return text;
        }
    }

    private static final class Target extends SimpleJavaFileObject {
        private final ByteArrayOutputStream bytes = new ByteArrayOutputStream();

        Target(String className) {
            super(URI.create("bytes:///" + className + ".class"), Kind.CLASS);
        }

        @Override
        public OutputStream openOutputStream() {
            return bytes;
        }
    }

    private static final class Targets extends ForwardingJavaFileManager<JavaFileManager> {
        private final Map<String, Target> made = new TreeMap<>();

        Targets(JavaFileManager manager) {
            super(manager);
        }

        @Override
        public JavaFileObject getJavaFileForOutput(Location location, String className, JavaFileObject.Kind kind, FileObject sibling) {
            String name = className.replace('.', '/');
            return made.computeIfAbsent(name, Target::new);
        }
    }

    private Javac() {
    }

    /** From class names to texts; the answer from class names, with a / between parts, to class files. */
    static Map<String, byte[]> compile(Map<String, String> texts) throws IOException {
        JavaCompiler compiler = ToolProvider.getSystemJavaCompiler();
        List<Source> sources = new ArrayList<>();
        texts.forEach((className, text) -> sources.add(new Source(className, text)));
        try (Targets targets = new Targets(compiler.getStandardFileManager(null, null, null))) {
            List<String> options = List.of("--release", "17", "-g:none", "-proc:none", "-cp", System.getProperty("java.class.path"));
            if (!compiler.getTask(null, targets, null, options, null, sources).call()) {
                throw new IllegalStateException("the sources do not compile");
            }
            Map<String, byte[]> classFiles = new TreeMap<>();
            targets.made.forEach((name, target) -> classFiles.put(name, target.bytes.toByteArray()));
            return classFiles;
        }
    }
}
